-- by program: the walks of the class
theorem wk_X6_within   (Q : Int32 → gh_M → Prop) (a0 : Int32) (a1 : Int32) (a2 : Int32) (M : gh_M) (hw : wp_X6_within  a0 a1 a2 M Q) : gh_Calls 1 mi_X6_within [vI a0, vI a1, vI a2] M (gh_Qi Q) := by
  refine gh_of (by decide) rfl 0 rfl (L0 := [some (vI a0), some (vI a1), some (vI a2)]) rfl (fun wd x hE => ?_)
  unfold wp_X6_within at hw
  refine gh_iload_n dc_X6_within_0 rfl ?_
  refine gh_iload_n dc_X6_within_1 rfl ?_
  refine gh_icmp_lt (tgt := 14) dc_X6_within_2 rfl (fun c1 => ?_) (fun c1 => ?_)
  · replace hw := hw.1 c1
    refine gh_iconst (v := (nI 0)) dc_X6_within_14 gc_0 ?_
    exact gh_zret dc_X6_within_15 hE rfl (by decide) hw
  · replace hw := hw.2 c1
    refine gh_iload_n dc_X6_within_5 rfl ?_
    refine gh_iload_n dc_X6_within_6 rfl ?_
    refine gh_icmp_gt (tgt := 14) dc_X6_within_7 rfl (fun c2 => ?_) (fun c2 => ?_)
    · replace hw := hw.1 c2
      refine gh_iconst (v := (nI 0)) dc_X6_within_14 gc_0 ?_
      exact gh_zret dc_X6_within_15 hE rfl (by decide) hw
    · replace hw := hw.2 c2
      refine gh_iconst (v := (nI 1)) dc_X6_within_10 gc_1 ?_
      refine gh_goto (tgt := 15) dc_X6_within_11 rfl ?_
      exact gh_zret dc_X6_within_15 hE rfl (by decide) hw
theorem wk_X6_isRow   (Q : Int32 → gh_M → Prop) (a0 : Int32) (M : gh_M) (hw : wp_X6_isRow  a0 M Q) : gh_Calls 2 mi_X6_isRow [vI a0] M (gh_Qi Q) := by
  refine gh_of (by decide) rfl 0 rfl (L0 := [some (vI a0)]) rfl (fun wd x hE => ?_)
  unfold wp_X6_isRow at hw
  refine gh_iload_n dc_X6_isRow_0 rfl ?_
  refine gh_iconst (v := (nI 0)) dc_X6_isRow_1 gc_0 ?_
  refine gh_bipush (v := (nI 7)) dc_X6_isRow_2 gb_7 ?_
  refine gh_callSi (mi' := mi_X6_within) (as := [vI a0, vI (nI 0), vI (nI 7)]) (S := []) dc_X6_isRow_4 ml_RX6_62 ok_X6_within rfl rfl (by decide) (Nat.le_of_ble_eq_true rfl) (wk_X6_within _ _ _ _ _ hw) (fun r1 M2 hw => ?_)
  exact gh_zret dc_X6_isRow_7 hE rfl hw.1 hw.2
theorem lk_J7_fill_53178_k3_5 {wd : gh_Wd} {x : gh_X} {Q : gh_M → Prop} {t0 : Nat} (ht0 : t0 < 8) (hE : gh_E wd (gh_Qv Q) x)   : ∀ (n : Nat) (x1 : Int32) (x2 : Int32) (x3 : Int32) (M : gh_M), wl_J7_fill_53178_k3_5 t0 Q n x1 x2 x3 M → gh_J mi_J7_fill_53178 1 wd x M 5 [some (vR 3 t0), some (vI x1), some (vI x2), some (vI x3)] [] := by
  intro n
  induction n with
  | zero => intro x1 x2 x3 M hw; exact hw.elim
  | succ n ih =>
    intro x1 x2 x3 M hw
    unfold wl_J7_fill_53178_k3_5 at hw
    refine gh_iload_n dc_J7_fill_53178_5 rfl ?_
    refine gh_iload_n dc_J7_fill_53178_6 rfl ?_
    refine gh_icmp_ge (tgt := 20) dc_J7_fill_53178_7 rfl (fun c1 => ?_) (fun c1 => ?_)
    · replace hw := hw.1 c1
      exact gh_vret dc_J7_fill_53178_20 hE rfl hw
    · replace hw := hw.2 c1
      refine gh_aload_n dc_J7_fill_53178_10 rfl ?_
      refine gh_iload_n dc_J7_fill_53178_11 rfl ?_
      refine gh_iload_n dc_J7_fill_53178_12 rfl ?_
      obtain ⟨h2, hw⟩ := hw
      refine gh_iast (k := 3) (t := t0) dc_J7_fill_53178_13 rfl (by decide) ht0 h2 ?_
      obtain ⟨M3, eM3⟩ : ∃ z, z = (gh_st M 3 t0 x2.toNatClampNeg x1) := ⟨_, rfl⟩
      rw [← eM3]
      replace hw := hw _ eM3
      obtain ⟨y2_4, ey2_4⟩ : ∃ z, z = (x2 + (nI 1)) := ⟨_, rfl⟩
      replace hw := hw _ ey2_4
      refine gh_iinc (v := y2_4) (L' := [some (vR 3 t0), some (vI x1), some (vI y2_4), some (vI x3)]) dc_J7_fill_53178_14 rfl ((congrArg (fun z => x2 + z) gc_1).trans ey2_4.symm) (by decide) rfl rfl ?_
      refine gh_goto (tgt := 5) dc_J7_fill_53178_17 rfl ?_
      refine gh_drop (pc' := 0) [some (vR 3 t0), some (vI x1), some (vI y2_4), some (vI x3)] ⟨rfl, rfl, rfl, rfl, trivial⟩ ?_
      exact ih _ _ _ _ hw
theorem wk_J7_fill_53178_k3 {t0 : Nat} (ht0 : t0 < 8) (Q : gh_M → Prop) (a0 : Int32) (M : gh_M) (hw : wp_J7_fill_53178_k3 t0 a0 M Q) : gh_Calls 1 mi_J7_fill_53178 [vR 3 t0, vI a0] M (gh_Qv Q) := by
  refine gh_of (by decide) rfl 2 rfl (L0 := [some (vR 3 t0), some (vI a0), none, none]) rfl (fun wd x hE => ?_)
  unfold wp_J7_fill_53178_k3 at hw
  refine gh_iconst (v := (nI 0)) dc_J7_fill_53178_0 gc_0 ?_
  refine gh_istore_n (L' := [some (vR 3 t0), some (vI a0), some (vI (nI 0)), none]) dc_J7_fill_53178_1 (by decide) rfl rfl ?_
  refine gh_aload_n dc_J7_fill_53178_2 rfl ?_
  refine gh_alen (k := 3) (t := t0) dc_J7_fill_53178_3 rfl (by decide) ht0 ?_
  refine gh_istore_n (L' := [some (vR 3 t0), some (vI a0), some (vI (nI 0)), some (vI (nI 40))]) dc_J7_fill_53178_4 (by decide) rfl rfl ?_
  refine gh_drop (pc' := 0) [some (vR 3 t0), some (vI a0), some (vI (nI 0)), some (vI (nI 40))] ⟨rfl, rfl, rfl, rfl, trivial⟩ ?_
  obtain ⟨k, hw⟩ := hw
  exact lk_J7_fill_53178_k3_5 ht0 hE  k _ _ _ _ hw
theorem wk_X3_begin {t0 : Nat} (ht0 : t0 < 8) (Q : gh_M → Prop) (a0 : Int32) (a1 : Int32) (M : gh_M) (hw : wp_X3_begin t0 a0 a1 M Q) : gh_Calls 2 mi_X3_begin [vR 2 t0, vI a0, vI a1] M (gh_Qv Q) := by
  refine gh_of (by decide) rfl 0 rfl (L0 := [some (vR 2 t0), some (vI a0), some (vI a1)]) rfl (fun wd x hE => ?_)
  unfold wp_X3_begin at hw
  refine gh_aload_n dc_X3_begin_0 rfl ?_
  refine gh_iconst (v := (nI 1)) dc_X3_begin_1 gc_1 ?_
  refine gh_put (k := 2) (t := t0) dc_X3_begin_2 fl_RX3_15 (by decide) ht0 rfl rfl (fun _ h => by cases h; rfl) rfl rfl ?_
  obtain ⟨M1, eM1⟩ : ∃ z, z = (gh_st M 2 t0 0 (nI 1)) := ⟨_, rfl⟩
  rw [← eM1]
  replace hw := hw _ eM1
  refine gh_aload_n dc_X3_begin_5 rfl ?_
  refine gh_iload_n dc_X3_begin_6 rfl ?_
  refine gh_put (k := 2) (t := t0) dc_X3_begin_7 fl_RX3_19 (by decide) ht0 rfl rfl (fun _ h => by cases h; rfl) rfl rfl ?_
  obtain ⟨M2, eM2⟩ : ∃ z, z = (gh_st M1 2 t0 1 a0) := ⟨_, rfl⟩
  rw [← eM2]
  replace hw := hw _ eM2
  refine gh_aload_n dc_X3_begin_10 rfl ?_
  refine gh_iload_n dc_X3_begin_11 rfl ?_
  refine gh_put (k := 2) (t := t0) dc_X3_begin_12 fl_RX3_23 (by decide) ht0 rfl rfl (fun _ h => by cases h; rfl) rfl rfl ?_
  obtain ⟨M3, eM3⟩ : ∃ z, z = (gh_st M2 2 t0 2 a1) := ⟨_, rfl⟩
  rw [← eM3]
  replace hw := hw _ eM3
  refine gh_aload_n dc_X3_begin_15 rfl ?_
  refine gh_getR (k := 2) (t := t0) dc_X3_begin_16 fl_RX3_9 (by decide) ht0 rfl rfl ?_
  refine gh_iconst (v := (nI 0)) dc_X3_begin_19 gc_0 ?_
  refine gh_callSv (mi' := mi_J7_fill_53178) (as := [vR 3 t0, vI (nI 0)]) (S := []) dc_X3_begin_20 ml_RX3_26 ok_J7_fill_53178 rfl rfl (by decide) (Nat.le_of_ble_eq_true rfl) (wk_J7_fill_53178_k3 ht0 _ _ _ hw) (fun M5 hw => ?_)
  exact gh_vret dc_X3_begin_23 hE rfl hw
theorem wk_X6_fine   (Q : Int32 → gh_M → Prop) (a0 : Int32) (M : gh_M) (hw : wp_X6_fine  a0 M Q) : gh_Calls 1 mi_X6_fine [vR 0 0, vI a0] M (gh_Qi Q) := by
  refine gh_of (by decide) rfl 0 rfl (L0 := [some (vR 0 0), some (vI a0)]) rfl (fun wd x hE => ?_)
  unfold wp_X6_fine at hw
  refine gh_aload_n dc_X6_fine_0 rfl ?_
  refine gh_iconst (v := (nI 0)) dc_X6_fine_1 gc_0 ?_
  refine gh_put (k := 0) (t := 0) dc_X6_fine_2 fl_RX6_334 (by decide) (by decide) rfl rfl (fun _ h => by cases h; rfl) rfl rfl ?_
  obtain ⟨M1, eM1⟩ : ∃ z, z = (gh_st M 0 0 9 (nI 0)) := ⟨_, rfl⟩
  rw [← eM1]
  replace hw := hw _ eM1
  refine gh_iload_n dc_X6_fine_5 rfl ?_
  exact gh_iret dc_X6_fine_6 hE rfl hw
theorem wk_X6_found   (Q : Int32 → gh_M → Prop) (a0 : Int32) (M : gh_M) (hw : wp_X6_found  a0 M Q) : gh_Calls 1 mi_X6_found [vR 0 0, vI a0] M (gh_Qi Q) := by
  refine gh_of (by decide) rfl 0 rfl (L0 := [some (vR 0 0), some (vI a0)]) rfl (fun wd x hE => ?_)
  unfold wp_X6_found at hw
  refine gh_aload_n dc_X6_found_0 rfl ?_
  refine gh_iload_n dc_X6_found_1 rfl ?_
  refine gh_put (k := 0) (t := 0) dc_X6_found_2 fl_RX6_334 (by decide) (by decide) rfl rfl (fun _ h => by cases h; rfl) rfl rfl ?_
  obtain ⟨M1, eM1⟩ : ∃ z, z = (gh_st M 0 0 9 a0) := ⟨_, rfl⟩
  rw [← eM1]
  replace hw := hw _ eM1
  refine gh_ldcw (v := (-1000010 : Int32)) dc_X6_found_5 tw_286 ?_
  refine gh_iload_n dc_X6_found_8 rfl ?_
  refine gh_isub dc_X6_found_9 ?_
  exact gh_iret dc_X6_found_10 hE rfl hw
theorem wk_X6_row   (Q : Int32 → gh_M → Prop) (a0 : Int32) (a1 : Int32) (a2 : Int32) (M : gh_M) (hw : wp_X6_row  a0 a1 a2 M Q) : gh_Calls 3 mi_X6_row [vR 0 0, vI a0, vI a1, vI a2] M (gh_Qi Q) := by
  refine gh_of (by decide) rfl 0 rfl (L0 := [some (vR 0 0), some (vI a0), some (vI a1), some (vI a2)]) rfl (fun wd x hE => ?_)
  unfold wp_X6_row at hw
  refine gh_iload_n dc_X6_row_0 rfl ?_
  refine gh_callSi (mi' := mi_X6_isRow) (as := [vI a0]) (S := []) dc_X6_row_1 ml_RX6_58 ok_X6_isRow rfl rfl (by decide) (Nat.le_of_ble_eq_true rfl) (wk_X6_isRow _ _ _ hw) (fun r1 M2 hw => ?_)
  refine gh_if_eq (tgt := 22) dc_X6_row_4 rfl (fun c3 => ?_) (fun c3 => ?_)
  · replace hw := hw.1 c3
    refine gh_ldc (v := (-1000001 : Int32)) dc_X6_row_22 tw_281 ?_
    exact gh_iret dc_X6_row_24 hE rfl hw
  · replace hw := hw.2 c3
    refine gh_iload_n dc_X6_row_7 rfl ?_
    refine gh_iconst (v := (nI 0)) dc_X6_row_8 gc_0 ?_
    refine gh_iconst (v := (nI 2)) dc_X6_row_9 gc_2 ?_
    refine gh_callSi (mi' := mi_X6_within) (as := [vI a1, vI (nI 0), vI (nI 2)]) (S := []) dc_X6_row_10 ml_RX6_62 ok_X6_within rfl rfl (by decide) (Nat.le_of_ble_eq_true rfl) (wk_X6_within _ _ _ _ _ hw) (fun r4 M5 hw => ?_)
    refine gh_if_eq (tgt := 22) dc_X6_row_13 rfl (fun c6 => ?_) (fun c6 => ?_)
    · replace hw := hw.1 c6
      refine gh_ldc (v := (-1000001 : Int32)) dc_X6_row_22 tw_281 ?_
      exact gh_iret dc_X6_row_24 hE rfl hw
    · replace hw := hw.2 c6
      refine gh_iload_n dc_X6_row_16 rfl ?_
      refine gh_bipush (v := (nI 40)) dc_X6_row_17 gb_40 ?_
      refine gh_icmp_le (tgt := 25) dc_X6_row_19 rfl (fun c7 => ?_) (fun c7 => ?_)
      · replace hw := hw.1 c7
        refine gh_iload_n dc_X6_row_25 rfl ?_
        refine gh_if_ge (tgt := 35) dc_X6_row_26 rfl (fun c8 => ?_) (fun c8 => ?_)
        · replace hw := hw.1 c8
          refine gh_aload_n dc_X6_row_35 rfl ?_
          refine gh_getR (k := 0) (t := 0) dc_X6_row_36 fl_RX6_11 (by decide) (by decide) rfl rfl ?_
          refine gh_iload_n dc_X6_row_39 rfl ?_
          obtain ⟨h9, hw⟩ := hw
          refine gh_aald (k := 1) (t := 0) (a := 0) dc_X6_row_40 rfl (by decide) (by decide) (by decide) h9 rfl ?_
          have bj10 := gh_cl h9
          obtain ⟨j10, ej10⟩ : ∃ z, a0.toNatClampNeg = z := ⟨_, rfl⟩
          rw [ej10]
          rw [ej10] at bj10
          replace hw := hw _ bj10 ej10
          refine gh_iload_n dc_X6_row_41 rfl ?_
          refine gh_iload_n dc_X6_row_42 rfl ?_
          refine gh_callVv (mi' := mi_X3_begin) (as := [vI a1, vI a2]) (S := []) (k := 2) (t := j10) dc_X6_row_43 ml_RX6_71 ok_X3_begin rfl rfl (by decide) (Nat.le_of_ble_eq_true rfl) (by decide) (show j10 < 8 by omega) rfl rfl (wk_X3_begin (show j10 < 8 by omega) _ _ _ _ hw) (fun M12 hw => ?_)
          refine gh_aload_n dc_X6_row_46 rfl ?_
          refine gh_iload_n dc_X6_row_47 rfl ?_
          refine gh_callVi (mi' := mi_X6_fine) (as := [vI a2]) (S := []) (k := 0) (t := 0) dc_X6_row_48 ml_RX6_75 ok_X6_fine rfl rfl (by decide) (Nat.le_of_ble_eq_true rfl) (by decide) (by decide) rfl rfl (wk_X6_fine _ _ _ hw) (fun r13 M14 hw => ?_)
          exact gh_iret dc_X6_row_51 hE rfl hw
        · replace hw := hw.2 c8
          refine gh_aload_n dc_X6_row_29 rfl ?_
          refine gh_iconst (v := (nI 4)) dc_X6_row_30 gc_4 ?_
          refine gh_callVi (mi' := mi_X6_found) (as := [vI (nI 4)]) (S := []) (k := 0) (t := 0) dc_X6_row_31 ml_RX6_67 ok_X6_found rfl rfl (by decide) (Nat.le_of_ble_eq_true rfl) (by decide) (by decide) rfl rfl (wk_X6_found _ _ _ hw) (fun r15 M16 hw => ?_)
          exact gh_iret dc_X6_row_34 hE rfl hw
      · replace hw := hw.2 c7
        refine gh_ldc (v := (-1000001 : Int32)) dc_X6_row_22 tw_281 ?_
        exact gh_iret dc_X6_row_24 hE rfl hw
theorem wk_X3_cut {t0 : Nat} (ht0 : t0 < 8) (Q : Int32 → gh_M → Prop) (a0 : Int32) (M : gh_M) (hw : wp_X3_cut t0 a0 M Q) : gh_Calls 1 mi_X3_cut [vR 2 t0, vI a0] M (gh_Qi Q) := by
  refine gh_of (by decide) rfl 0 rfl (L0 := [some (vR 2 t0), some (vI a0)]) rfl (fun wd x hE => ?_)
  unfold wp_X3_cut at hw
  refine gh_aload_n dc_X3_cut_0 rfl ?_
  refine gh_getI (k := 2) (t := t0) dc_X3_cut_1 fl_RX3_19 (by decide) ht0 rfl rfl ?_
  refine gh_if_ne (tgt := 10) dc_X3_cut_4 rfl (fun c1 => ?_) (fun c1 => ?_)
  · replace hw := hw.1 c1
    refine gh_aload_n dc_X3_cut_10 rfl ?_
    refine gh_getI (k := 2) (t := t0) dc_X3_cut_11 fl_RX3_19 (by decide) ht0 rfl rfl ?_
    refine gh_iconst (v := (nI 1)) dc_X3_cut_14 gc_1 ?_
    refine gh_icmp_ne (tgt := 23) dc_X3_cut_15 rfl (fun c2 => ?_) (fun c2 => ?_)
    · replace hw := hw.1 c2
      refine gh_iload_n dc_X3_cut_23 rfl ?_
      exact gh_iret dc_X3_cut_24 hE rfl hw
    · replace hw := hw.2 c2
      refine gh_iload_n dc_X3_cut_18 rfl ?_
      refine gh_i2s dc_X3_cut_19 ?_
      refine gh_goto (tgt := 24) dc_X3_cut_20 rfl ?_
      exact gh_iret dc_X3_cut_24 hE rfl hw
  · replace hw := hw.2 c1
    refine gh_iload_n dc_X3_cut_7 rfl ?_
    refine gh_i2b dc_X3_cut_8 ?_
    exact gh_iret dc_X3_cut_9 hE rfl hw
theorem wk_X6_set   (Q : Int32 → gh_M → Prop) (a0 : Int32) (a1 : Int32) (a2 : Int32) (M : gh_M) (hw : wp_X6_set  a0 a1 a2 M Q) : gh_Calls 3 mi_X6_set [vR 0 0, vI a0, vI a1, vI a2] M (gh_Qi Q) := by
  refine gh_of (by decide) rfl 1 rfl (L0 := [some (vR 0 0), some (vI a0), some (vI a1), some (vI a2), none]) rfl (fun wd x hE => ?_)
  unfold wp_X6_set at hw
  refine gh_iload_n dc_X6_set_0 rfl ?_
  refine gh_callSi (mi' := mi_X6_isRow) (as := [vI a0]) (S := []) dc_X6_set_1 ml_RX6_58 ok_X6_isRow rfl rfl (by decide) (Nat.le_of_ble_eq_true rfl) (wk_X6_isRow _ _ _ hw) (fun r1 M2 hw => ?_)
  refine gh_if_ne (tgt := 10) dc_X6_set_4 rfl (fun c3 => ?_) (fun c3 => ?_)
  · replace hw := hw.1 c3
    refine gh_aload_n dc_X6_set_10 rfl ?_
    refine gh_getR (k := 0) (t := 0) dc_X6_set_11 fl_RX6_11 (by decide) (by decide) rfl rfl ?_
    refine gh_iload_n dc_X6_set_14 rfl ?_
    obtain ⟨h4, hw⟩ := hw
    refine gh_aald (k := 1) (t := 0) (a := 0) dc_X6_set_15 rfl (by decide) (by decide) (by decide) h4 rfl ?_
    have bj5 := gh_cl h4
    obtain ⟨j5, ej5⟩ : ∃ z, a0.toNatClampNeg = z := ⟨_, rfl⟩
    rw [ej5]
    rw [ej5] at bj5
    replace hw := hw _ bj5 ej5
    refine gh_astore (L' := [some (vR 0 0), some (vI a0), some (vI a1), some (vI a2), some (vR 2 j5)]) dc_X6_set_16 (by decide) rfl rfl ?_
    refine gh_aload dc_X6_set_18 rfl ?_
    refine gh_getI (k := 2) (t := j5) dc_X6_set_20 fl_RX6_78 (by decide) (show j5 < 8 by omega) rfl rfl ?_
    refine gh_if_ne (tgt := 32) dc_X6_set_23 rfl (fun c6 => ?_) (fun c6 => ?_)
    · replace hw := hw.1 c6
      refine gh_iload_n dc_X6_set_32 rfl ?_
      refine gh_iconst (v := (nI 0)) dc_X6_set_33 gc_0 ?_
      refine gh_aload dc_X6_set_34 rfl ?_
      refine gh_getI (k := 2) (t := j5) dc_X6_set_36 fl_RX6_82 (by decide) (show j5 < 8 by omega) rfl rfl ?_
      refine gh_iconst (v := (nI 1)) dc_X6_set_39 gc_1 ?_
      refine gh_isub dc_X6_set_40 ?_
      refine gh_callSi (mi' := mi_X6_within) (as := [vI a1, vI (nI 0), vI ((M2 2 j5 2) - (nI 1))]) (S := []) dc_X6_set_41 ml_RX6_62 ok_X6_within rfl rfl (by decide) (Nat.le_of_ble_eq_true rfl) (wk_X6_within _ _ _ _ _ hw) (fun r7 M8 hw => ?_)
      refine gh_if_ne (tgt := 53) dc_X6_set_44 rfl (fun c9 => ?_) (fun c9 => ?_)
      · replace hw := hw.1 c9
        refine gh_aload dc_X6_set_53 rfl ?_
        refine gh_getR (k := 2) (t := j5) dc_X6_set_55 fl_RX6_86 (by decide) (show j5 < 8 by omega) rfl rfl ?_
        refine gh_iload_n dc_X6_set_58 rfl ?_
        refine gh_aload dc_X6_set_59 rfl ?_
        refine gh_iload_n dc_X6_set_61 rfl ?_
        refine gh_callVi (mi' := mi_X3_cut) (as := [vI a2]) (S := [vI a1, vR 3 j5]) (k := 2) (t := j5) dc_X6_set_62 ml_RX6_90 ok_X3_cut rfl rfl (by decide) (Nat.le_of_ble_eq_true rfl) (by decide) (show j5 < 8 by omega) rfl rfl (wk_X3_cut (show j5 < 8 by omega) _ _ _ hw) (fun r10 M11 hw => ?_)
        obtain ⟨h12, hw⟩ := hw
        refine gh_iast (k := 3) (t := j5) dc_X6_set_65 rfl (by decide) (show j5 < 8 by omega) h12 ?_
        obtain ⟨M13, eM13⟩ : ∃ z, z = (gh_st M11 3 j5 a1.toNatClampNeg r10) := ⟨_, rfl⟩
        rw [← eM13]
        replace hw := hw _ eM13
        refine gh_aload_n dc_X6_set_66 rfl ?_
        refine gh_aload dc_X6_set_67 rfl ?_
        refine gh_getR (k := 2) (t := j5) dc_X6_set_69 fl_RX6_86 (by decide) (show j5 < 8 by omega) rfl rfl ?_
        refine gh_iload_n dc_X6_set_72 rfl ?_
        obtain ⟨h14, hw⟩ := hw
        refine gh_iald (k := 3) (t := j5) dc_X6_set_73 rfl (by decide) (show j5 < 8 by omega) h14 ?_
        refine gh_callVi (mi' := mi_X6_fine) (as := [vI (M13 3 j5 a1.toNatClampNeg)]) (S := []) (k := 0) (t := 0) dc_X6_set_74 ml_RX6_75 ok_X6_fine rfl rfl (by decide) (Nat.le_of_ble_eq_true rfl) (by decide) (by decide) rfl rfl (wk_X6_fine _ _ _ hw) (fun r15 M16 hw => ?_)
        exact gh_iret dc_X6_set_77 hE rfl hw
      · replace hw := hw.2 c9
        refine gh_aload_n dc_X6_set_47 rfl ?_
        refine gh_iconst (v := (nI 2)) dc_X6_set_48 gc_2 ?_
        refine gh_callVi (mi' := mi_X6_found) (as := [vI (nI 2)]) (S := []) (k := 0) (t := 0) dc_X6_set_49 ml_RX6_67 ok_X6_found rfl rfl (by decide) (Nat.le_of_ble_eq_true rfl) (by decide) (by decide) rfl rfl (wk_X6_found _ _ _ hw) (fun r17 M18 hw => ?_)
        exact gh_iret dc_X6_set_52 hE rfl hw
    · replace hw := hw.2 c6
      refine gh_aload_n dc_X6_set_26 rfl ?_
      refine gh_iconst (v := (nI 1)) dc_X6_set_27 gc_1 ?_
      refine gh_callVi (mi' := mi_X6_found) (as := [vI (nI 1)]) (S := []) (k := 0) (t := 0) dc_X6_set_28 ml_RX6_67 ok_X6_found rfl rfl (by decide) (Nat.le_of_ble_eq_true rfl) (by decide) (by decide) rfl rfl (wk_X6_found _ _ _ hw) (fun r19 M20 hw => ?_)
      exact gh_iret dc_X6_set_31 hE rfl hw
  · replace hw := hw.2 c3
    refine gh_ldc (v := (-1000001 : Int32)) dc_X6_set_7 tw_281 ?_
    exact gh_iret dc_X6_set_9 hE rfl hw
theorem wk_X3_holds {t0 : Nat} (ht0 : t0 < 8) (Q : Int32 → gh_M → Prop) (a0 : Int32) (a1 : Int32) (M : gh_M) (hw : wp_X3_holds t0 a0 a1 M Q) : gh_Calls 1 mi_X3_holds [vR 2 t0, vI a0, vI a1] M (gh_Qi Q) := by
  refine gh_of (by decide) rfl 0 rfl (L0 := [some (vR 2 t0), some (vI a0), some (vI a1)]) rfl (fun wd x hE => ?_)
  unfold wp_X3_holds at hw
  refine gh_iload_n dc_X3_holds_0 rfl ?_
  refine gh_if_lt (tgt := 30) dc_X3_holds_1 rfl (fun c1 => ?_) (fun c1 => ?_)
  · replace hw := hw.1 c1
    refine gh_iconst (v := (nI 0)) dc_X3_holds_30 gc_0 ?_
    exact gh_zret dc_X3_holds_31 hE rfl (by decide) hw
  · replace hw := hw.2 c1
    refine gh_iload_n dc_X3_holds_4 rfl ?_
    refine gh_if_lt (tgt := 30) dc_X3_holds_5 rfl (fun c2 => ?_) (fun c2 => ?_)
    · replace hw := hw.1 c2
      refine gh_iconst (v := (nI 0)) dc_X3_holds_30 gc_0 ?_
      exact gh_zret dc_X3_holds_31 hE rfl (by decide) hw
    · replace hw := hw.2 c2
      refine gh_iload_n dc_X3_holds_8 rfl ?_
      refine gh_aload_n dc_X3_holds_9 rfl ?_
      refine gh_getI (k := 2) (t := t0) dc_X3_holds_10 fl_RX3_23 (by decide) ht0 rfl rfl ?_
      refine gh_icmp_gt (tgt := 30) dc_X3_holds_13 rfl (fun c3 => ?_) (fun c3 => ?_)
      · replace hw := hw.1 c3
        refine gh_iconst (v := (nI 0)) dc_X3_holds_30 gc_0 ?_
        exact gh_zret dc_X3_holds_31 hE rfl (by decide) hw
      · replace hw := hw.2 c3
        refine gh_iload_n dc_X3_holds_16 rfl ?_
        refine gh_aload_n dc_X3_holds_17 rfl ?_
        refine gh_getI (k := 2) (t := t0) dc_X3_holds_18 fl_RX3_23 (by decide) ht0 rfl rfl ?_
        refine gh_iload_n dc_X3_holds_21 rfl ?_
        refine gh_isub dc_X3_holds_22 ?_
        refine gh_icmp_gt (tgt := 30) dc_X3_holds_23 rfl (fun c4 => ?_) (fun c4 => ?_)
        · replace hw := hw.1 c4
          refine gh_iconst (v := (nI 0)) dc_X3_holds_30 gc_0 ?_
          exact gh_zret dc_X3_holds_31 hE rfl (by decide) hw
        · replace hw := hw.2 c4
          refine gh_iconst (v := (nI 1)) dc_X3_holds_26 gc_1 ?_
          refine gh_goto (tgt := 31) dc_X3_holds_27 rfl ?_
          exact gh_zret dc_X3_holds_31 hE rfl (by decide) hw
theorem wk_X6_copy   (Q : Int32 → gh_M → Prop) (a0 : Int32) (a1 : Int32) (a2 : Int32) (a3 : Int32) (a4 : Int32) (M : gh_M) (hw : wp_X6_copy  a0 a1 a2 a3 a4 M Q) : gh_Calls 3 mi_X6_copy [vR 0 0, vI a0, vI a1, vI a2, vI a3, vI a4] M (gh_Qi Q) := by
  refine gh_of (by decide) rfl 2 rfl (L0 := [some (vR 0 0), some (vI a0), some (vI a1), some (vI a2), some (vI a3), some (vI a4), none, none]) rfl (fun wd x hE => ?_)
  unfold wp_X6_copy at hw
  refine gh_iload_n dc_X6_copy_0 rfl ?_
  refine gh_callSi (mi' := mi_X6_isRow) (as := [vI a0]) (S := []) dc_X6_copy_1 ml_RX6_58 ok_X6_isRow rfl rfl (by decide) (Nat.le_of_ble_eq_true rfl) (wk_X6_isRow _ _ _ hw) (fun r1 M2 hw => ?_)
  refine gh_if_eq (tgt := 14) dc_X6_copy_4 rfl (fun c3 => ?_) (fun c3 => ?_)
  · replace hw := hw.1 c3
    refine gh_ldc (v := (-1000001 : Int32)) dc_X6_copy_14 tw_281 ?_
    exact gh_iret dc_X6_copy_16 hE rfl hw
  · replace hw := hw.2 c3
    refine gh_iload_n dc_X6_copy_7 rfl ?_
    refine gh_callSi (mi' := mi_X6_isRow) (as := [vI a2]) (S := []) dc_X6_copy_8 ml_RX6_58 ok_X6_isRow rfl rfl (by decide) (Nat.le_of_ble_eq_true rfl) (wk_X6_isRow _ _ _ hw) (fun r4 M5 hw => ?_)
    refine gh_if_ne (tgt := 17) dc_X6_copy_11 rfl (fun c6 => ?_) (fun c6 => ?_)
    · replace hw := hw.1 c6
      refine gh_aload_n dc_X6_copy_17 rfl ?_
      refine gh_getR (k := 0) (t := 0) dc_X6_copy_18 fl_RX6_11 (by decide) (by decide) rfl rfl ?_
      refine gh_iload_n dc_X6_copy_21 rfl ?_
      obtain ⟨h7, hw⟩ := hw
      refine gh_aald (k := 1) (t := 0) (a := 0) dc_X6_copy_22 rfl (by decide) (by decide) (by decide) h7 rfl ?_
      have bj8 := gh_cl h7
      obtain ⟨j8, ej8⟩ : ∃ z, a0.toNatClampNeg = z := ⟨_, rfl⟩
      rw [ej8]
      rw [ej8] at bj8
      replace hw := hw _ bj8 ej8
      refine gh_astore (L' := [some (vR 0 0), some (vI a0), some (vI a1), some (vI a2), some (vI a3), some (vI a4), some (vR 2 j8), none]) dc_X6_copy_23 (by decide) rfl rfl ?_
      refine gh_aload_n dc_X6_copy_25 rfl ?_
      refine gh_getR (k := 0) (t := 0) dc_X6_copy_26 fl_RX6_11 (by decide) (by decide) rfl rfl ?_
      refine gh_iload_n dc_X6_copy_29 rfl ?_
      obtain ⟨h9, hw⟩ := hw
      refine gh_aald (k := 1) (t := 0) (a := 0) dc_X6_copy_30 rfl (by decide) (by decide) (by decide) h9 rfl ?_
      have bj10 := gh_cl h9
      obtain ⟨j10, ej10⟩ : ∃ z, a2.toNatClampNeg = z := ⟨_, rfl⟩
      rw [ej10]
      rw [ej10] at bj10
      replace hw := hw _ bj10 ej10
      refine gh_astore (L' := [some (vR 0 0), some (vI a0), some (vI a1), some (vI a2), some (vI a3), some (vI a4), some (vR 2 j8), some (vR 2 j10)]) dc_X6_copy_31 (by decide) rfl rfl ?_
      refine gh_aload dc_X6_copy_33 rfl ?_
      refine gh_getI (k := 2) (t := j8) dc_X6_copy_35 fl_RX6_78 (by decide) (show j8 < 8 by omega) rfl rfl ?_
      refine gh_if_eq (tgt := 49) dc_X6_copy_38 rfl (fun c11 => ?_) (fun c11 => ?_)
      · replace hw := hw.1 c11
        refine gh_aload_n dc_X6_copy_49 rfl ?_
        refine gh_iconst (v := (nI 1)) dc_X6_copy_50 gc_1 ?_
        refine gh_callVi (mi' := mi_X6_found) (as := [vI (nI 1)]) (S := []) (k := 0) (t := 0) dc_X6_copy_51 ml_RX6_67 ok_X6_found rfl rfl (by decide) (Nat.le_of_ble_eq_true rfl) (by decide) (by decide) rfl rfl (wk_X6_found _ _ _ hw) (fun r12 M13 hw => ?_)
        exact gh_iret dc_X6_copy_54 hE rfl hw
      · replace hw := hw.2 c11
        refine gh_aload dc_X6_copy_41 rfl ?_
        refine gh_getI (k := 2) (t := j10) dc_X6_copy_43 fl_RX6_78 (by decide) (show j10 < 8 by omega) rfl rfl ?_
        refine gh_if_ne (tgt := 55) dc_X6_copy_46 rfl (fun c14 => ?_) (fun c14 => ?_)
        · replace hw := hw.1 c14
          refine gh_aload dc_X6_copy_55 rfl ?_
          refine gh_getI (k := 2) (t := j8) dc_X6_copy_57 fl_RX6_93 (by decide) (show j8 < 8 by omega) rfl rfl ?_
          refine gh_aload dc_X6_copy_60 rfl ?_
          refine gh_getI (k := 2) (t := j10) dc_X6_copy_62 fl_RX6_93 (by decide) (show j10 < 8 by omega) rfl rfl ?_
          refine gh_icmp_eq (tgt := 74) dc_X6_copy_65 rfl (fun c15 => ?_) (fun c15 => ?_)
          · replace hw := hw.1 c15
            refine gh_aload dc_X6_copy_74 rfl ?_
            refine gh_iload_n dc_X6_copy_76 rfl ?_
            refine gh_iload dc_X6_copy_77 rfl ?_
            refine gh_callVi (mi' := mi_X3_holds) (as := [vI a1, vI a4]) (S := []) (k := 2) (t := j8) dc_X6_copy_79 ml_RX6_96 ok_X3_holds rfl rfl (by decide) (Nat.le_of_ble_eq_true rfl) (by decide) (show j8 < 8 by omega) rfl rfl (wk_X3_holds (show j8 < 8 by omega) _ _ _ _ hw) (fun r16 M17 hw => ?_)
            refine gh_if_eq (tgt := 97) dc_X6_copy_82 rfl (fun c18 => ?_) (fun c18 => ?_)
            · replace hw := hw.1 c18
              refine gh_aload_n dc_X6_copy_97 rfl ?_
              refine gh_iconst (v := (nI 2)) dc_X6_copy_98 gc_2 ?_
              refine gh_callVi (mi' := mi_X6_found) (as := [vI (nI 2)]) (S := []) (k := 0) (t := 0) dc_X6_copy_99 ml_RX6_67 ok_X6_found rfl rfl (by decide) (Nat.le_of_ble_eq_true rfl) (by decide) (by decide) rfl rfl (wk_X6_found _ _ _ hw) (fun r19 M20 hw => ?_)
              exact gh_iret dc_X6_copy_102 hE rfl hw
            · replace hw := hw.2 c18
              refine gh_aload dc_X6_copy_85 rfl ?_
              refine gh_iload dc_X6_copy_87 rfl ?_
              refine gh_iload dc_X6_copy_89 rfl ?_
              refine gh_callVi (mi' := mi_X3_holds) (as := [vI a3, vI a4]) (S := []) (k := 2) (t := j10) dc_X6_copy_91 ml_RX6_96 ok_X3_holds rfl rfl (by decide) (Nat.le_of_ble_eq_true rfl) (by decide) (show j10 < 8 by omega) rfl rfl (wk_X3_holds (show j10 < 8 by omega) _ _ _ _ hw) (fun r21 M22 hw => ?_)
              refine gh_if_ne (tgt := 103) dc_X6_copy_94 rfl (fun c23 => ?_) (fun c23 => ?_)
              · replace hw := hw.1 c23
                refine gh_aload dc_X6_copy_103 rfl ?_
                refine gh_getR (k := 2) (t := j8) dc_X6_copy_105 fl_RX6_86 (by decide) (show j8 < 8 by omega) rfl rfl ?_
                refine gh_iload_n dc_X6_copy_108 rfl ?_
                refine gh_aload dc_X6_copy_109 rfl ?_
                refine gh_getR (k := 2) (t := j10) dc_X6_copy_111 fl_RX6_86 (by decide) (show j10 < 8 by omega) rfl rfl ?_
                refine gh_iload dc_X6_copy_114 rfl ?_
                refine gh_iload dc_X6_copy_116 rfl ?_
                obtain ⟨h24, hw⟩ := hw
                refine gh_copy (z := 0) (ks := 3) (ts := j8) (kd := 3) (td := j10) (S := []) dc_X6_copy_118 tw_314 tw_316 tw_315 tw_10 (by decide) (Nat.le_of_ble_eq_true rfl) (by decide) rfl rfl (by decide) (show j8 < 8 by omega) (by decide) (show j10 < 8 by omega) h24.1 h24.2.1 h24.2.2.1 h24.2.2.2.1 h24.2.2.2.2 (fun h => absurd h (by decide)) ?_
                obtain ⟨M25, eM25⟩ : ∃ z, z = (gh_row M22 3 j10 (va_cpy (M22 3 j8) (M22 3 j10) a1.toNatClampNeg a3.toNatClampNeg a4.toNatClampNeg)) := ⟨_, rfl⟩
                rw [← eM25]
                replace hw := hw _ eM25
                refine gh_aload_n dc_X6_copy_121 rfl ?_
                refine gh_iload dc_X6_copy_122 rfl ?_
                refine gh_callVi (mi' := mi_X6_fine) (as := [vI a4]) (S := []) (k := 0) (t := 0) dc_X6_copy_124 ml_RX6_75 ok_X6_fine rfl rfl (by decide) (Nat.le_of_ble_eq_true rfl) (by decide) (by decide) rfl rfl (wk_X6_fine _ _ _ hw) (fun r26 M27 hw => ?_)
                exact gh_iret dc_X6_copy_127 hE rfl hw
              · replace hw := hw.2 c23
                refine gh_aload_n dc_X6_copy_97 rfl ?_
                refine gh_iconst (v := (nI 2)) dc_X6_copy_98 gc_2 ?_
                refine gh_callVi (mi' := mi_X6_found) (as := [vI (nI 2)]) (S := []) (k := 0) (t := 0) dc_X6_copy_99 ml_RX6_67 ok_X6_found rfl rfl (by decide) (Nat.le_of_ble_eq_true rfl) (by decide) (by decide) rfl rfl (wk_X6_found _ _ _ hw) (fun r28 M29 hw => ?_)
                exact gh_iret dc_X6_copy_102 hE rfl hw
          · replace hw := hw.2 c15
            refine gh_aload_n dc_X6_copy_68 rfl ?_
            refine gh_iconst (v := (nI 5)) dc_X6_copy_69 gc_5 ?_
            refine gh_callVi (mi' := mi_X6_found) (as := [vI (nI 5)]) (S := []) (k := 0) (t := 0) dc_X6_copy_70 ml_RX6_67 ok_X6_found rfl rfl (by decide) (Nat.le_of_ble_eq_true rfl) (by decide) (by decide) rfl rfl (wk_X6_found _ _ _ hw) (fun r30 M31 hw => ?_)
            exact gh_iret dc_X6_copy_73 hE rfl hw
        · replace hw := hw.2 c14
          refine gh_aload_n dc_X6_copy_49 rfl ?_
          refine gh_iconst (v := (nI 1)) dc_X6_copy_50 gc_1 ?_
          refine gh_callVi (mi' := mi_X6_found) (as := [vI (nI 1)]) (S := []) (k := 0) (t := 0) dc_X6_copy_51 ml_RX6_67 ok_X6_found rfl rfl (by decide) (Nat.le_of_ble_eq_true rfl) (by decide) (by decide) rfl rfl (wk_X6_found _ _ _ hw) (fun r32 M33 hw => ?_)
          exact gh_iret dc_X6_copy_54 hE rfl hw
    · replace hw := hw.2 c6
      refine gh_ldc (v := (-1000001 : Int32)) dc_X6_copy_14 tw_281 ?_
      exact gh_iret dc_X6_copy_16 hE rfl hw
theorem wk_X6_drop   (Q : Int32 → gh_M → Prop) (a0 : Int32) (M : gh_M) (hw : wp_X6_drop  a0 M Q) : gh_Calls 3 mi_X6_drop [vR 0 0, vI a0] M (gh_Qi Q) := by
  refine gh_of (by decide) rfl 0 rfl (L0 := [some (vR 0 0), some (vI a0)]) rfl (fun wd x hE => ?_)
  unfold wp_X6_drop at hw
  refine gh_iload_n dc_X6_drop_0 rfl ?_
  refine gh_callSi (mi' := mi_X6_isRow) (as := [vI a0]) (S := []) dc_X6_drop_1 ml_RX6_58 ok_X6_isRow rfl rfl (by decide) (Nat.le_of_ble_eq_true rfl) (wk_X6_isRow _ _ _ hw) (fun r1 M2 hw => ?_)
  refine gh_if_ne (tgt := 10) dc_X6_drop_4 rfl (fun c3 => ?_) (fun c3 => ?_)
  · replace hw := hw.1 c3
    refine gh_aload_n dc_X6_drop_10 rfl ?_
    refine gh_getR (k := 0) (t := 0) dc_X6_drop_11 fl_RX6_11 (by decide) (by decide) rfl rfl ?_
    refine gh_iload_n dc_X6_drop_14 rfl ?_
    obtain ⟨h4, hw⟩ := hw
    refine gh_aald (k := 1) (t := 0) (a := 0) dc_X6_drop_15 rfl (by decide) (by decide) (by decide) h4 rfl ?_
    have bj5 := gh_cl h4
    obtain ⟨j5, ej5⟩ : ∃ z, a0.toNatClampNeg = z := ⟨_, rfl⟩
    rw [ej5]
    rw [ej5] at bj5
    replace hw := hw _ bj5 ej5
    refine gh_getI (k := 2) (t := j5) dc_X6_drop_16 fl_RX6_78 (by decide) (show j5 < 8 by omega) rfl rfl ?_
    refine gh_if_ne (tgt := 28) dc_X6_drop_19 rfl (fun c6 => ?_) (fun c6 => ?_)
    · replace hw := hw.1 c6
      refine gh_aload_n dc_X6_drop_28 rfl ?_
      refine gh_getR (k := 0) (t := 0) dc_X6_drop_29 fl_RX6_11 (by decide) (by decide) rfl rfl ?_
      refine gh_iload_n dc_X6_drop_32 rfl ?_
      obtain ⟨h7, hw⟩ := hw
      refine gh_aald (k := 1) (t := 0) (a := 0) dc_X6_drop_33 rfl (by decide) (by decide) (by decide) h7 rfl ?_
      have bj8 := gh_cl h7
      obtain ⟨j8, ej8⟩ : ∃ z, a0.toNatClampNeg = z := ⟨_, rfl⟩
      rw [ej8]
      rw [ej8] at bj8
      replace hw := hw _ bj8 ej8
      refine gh_iconst (v := (nI 0)) dc_X6_drop_34 gc_0 ?_
      refine gh_put (k := 2) (t := j8) dc_X6_drop_35 fl_RX6_78 (by decide) (show j8 < 8 by omega) rfl rfl (fun _ h => by cases h; rfl) rfl rfl ?_
      obtain ⟨M9, eM9⟩ : ∃ z, z = (gh_st M2 2 j8 0 (nI 0)) := ⟨_, rfl⟩
      rw [← eM9]
      replace hw := hw _ eM9
      refine gh_aload_n dc_X6_drop_38 rfl ?_
      refine gh_aload_n dc_X6_drop_39 rfl ?_
      refine gh_getR (k := 0) (t := 0) dc_X6_drop_40 fl_RX6_11 (by decide) (by decide) rfl rfl ?_
      refine gh_iload_n dc_X6_drop_43 rfl ?_
      obtain ⟨h10, hw⟩ := hw
      refine gh_aald (k := 1) (t := 0) (a := 0) dc_X6_drop_44 rfl (by decide) (by decide) (by decide) h10 rfl ?_
      have bj11 := gh_cl h10
      obtain ⟨j11, ej11⟩ : ∃ z, a0.toNatClampNeg = z := ⟨_, rfl⟩
      rw [ej11]
      rw [ej11] at bj11
      replace hw := hw _ bj11 ej11
      refine gh_getI (k := 2) (t := j11) dc_X6_drop_45 fl_RX6_82 (by decide) (show j11 < 8 by omega) rfl rfl ?_
      refine gh_callVi (mi' := mi_X6_fine) (as := [vI (M9 2 j11 2)]) (S := []) (k := 0) (t := 0) dc_X6_drop_48 ml_RX6_75 ok_X6_fine rfl rfl (by decide) (Nat.le_of_ble_eq_true rfl) (by decide) (by decide) rfl rfl (wk_X6_fine _ _ _ hw) (fun r12 M13 hw => ?_)
      exact gh_iret dc_X6_drop_51 hE rfl hw
    · replace hw := hw.2 c6
      refine gh_aload_n dc_X6_drop_22 rfl ?_
      refine gh_iconst (v := (nI 1)) dc_X6_drop_23 gc_1 ?_
      refine gh_callVi (mi' := mi_X6_found) (as := [vI (nI 1)]) (S := []) (k := 0) (t := 0) dc_X6_drop_24 ml_RX6_67 ok_X6_found rfl rfl (by decide) (Nat.le_of_ble_eq_true rfl) (by decide) (by decide) rfl rfl (wk_X6_found _ _ _ hw) (fun r14 M15 hw => ?_)
      exact gh_iret dc_X6_drop_27 hE rfl hw
  · replace hw := hw.2 c3
    refine gh_ldc (v := (-1000001 : Int32)) dc_X6_drop_7 tw_281 ?_
    exact gh_iret dc_X6_drop_9 hE rfl hw
theorem wk_X6_feed   (Q : Int32 → gh_M → Prop) (a0 : Int32) (M : gh_M) (hw : wp_X6_feed  a0 M Q) : gh_Calls 2 mi_X6_feed [vR 0 0, vI a0] M (gh_Qi Q) := by
  refine gh_of (by decide) rfl 0 rfl (L0 := [some (vR 0 0), some (vI a0)]) rfl (fun wd x hE => ?_)
  unfold wp_X6_feed at hw
  refine gh_iload_n dc_X6_feed_0 rfl ?_
  refine gh_iconst (v := (nI 0)) dc_X6_feed_1 gc_0 ?_
  refine gh_sipush (v := (nI 255)) dc_X6_feed_2 gs_255 ?_
  refine gh_callSi (mi' := mi_X6_within) (as := [vI a0, vI (nI 0), vI (nI 255)]) (S := []) dc_X6_feed_5 ml_RX6_62 ok_X6_within rfl rfl (by decide) (Nat.le_of_ble_eq_true rfl) (wk_X6_within _ _ _ _ _ hw) (fun r1 M2 hw => ?_)
  refine gh_if_ne (tgt := 14) dc_X6_feed_8 rfl (fun c3 => ?_) (fun c3 => ?_)
  · replace hw := hw.1 c3
    refine gh_aload_n dc_X6_feed_14 rfl ?_
    refine gh_getR (k := 0) (t := 0) dc_X6_feed_15 fl_RX6_18 (by decide) (by decide) rfl rfl ?_
    refine gh_getI (k := 4) (t := 0) dc_X6_feed_18 fl_RX6_106 (by decide) (by decide) rfl rfl ?_
    refine gh_bipush (v := (nI 100)) dc_X6_feed_21 gb_100 ?_
    refine gh_icmp_lt (tgt := 29) dc_X6_feed_23 rfl (fun c4 => ?_) (fun c4 => ?_)
    · replace hw := hw.1 c4
      refine gh_aload_n dc_X6_feed_29 rfl ?_
      refine gh_getR (k := 0) (t := 0) dc_X6_feed_30 fl_RX6_18 (by decide) (by decide) rfl rfl ?_
      refine gh_getR (k := 4) (t := 0) dc_X6_feed_33 fl_RX6_108 (by decide) (by decide) rfl rfl ?_
      refine gh_aload_n dc_X6_feed_36 rfl ?_
      refine gh_getR (k := 0) (t := 0) dc_X6_feed_37 fl_RX6_18 (by decide) (by decide) rfl rfl ?_
      refine gh_getI (k := 4) (t := 0) dc_X6_feed_40 fl_RX6_106 (by decide) (by decide) rfl rfl ?_
      refine gh_iload_n dc_X6_feed_43 rfl ?_
      obtain ⟨h5, hw⟩ := hw
      refine gh_iast (k := 5) (t := 0) dc_X6_feed_44 rfl (by decide) (by decide) h5 ?_
      obtain ⟨M6, eM6⟩ : ∃ z, z = (gh_st M2 5 0 (M2 4 0 1).toNatClampNeg a0) := ⟨_, rfl⟩
      rw [← eM6]
      replace hw := hw _ eM6
      refine gh_aload_n dc_X6_feed_45 rfl ?_
      refine gh_getR (k := 0) (t := 0) dc_X6_feed_46 fl_RX6_18 (by decide) (by decide) rfl rfl ?_
      refine gh_dupR dc_X6_feed_49 ?_
      refine gh_getI (k := 4) (t := 0) dc_X6_feed_50 fl_RX6_106 (by decide) (by decide) rfl rfl ?_
      refine gh_iconst (v := (nI 1)) dc_X6_feed_53 gc_1 ?_
      refine gh_iadd dc_X6_feed_54 ?_
      refine gh_put (k := 4) (t := 0) dc_X6_feed_55 fl_RX6_106 (by decide) (by decide) rfl rfl (fun _ h => by cases h; rfl) rfl rfl ?_
      obtain ⟨M7, eM7⟩ : ∃ z, z = (gh_st M6 4 0 1 ((M6 4 0 1) + (nI 1))) := ⟨_, rfl⟩
      rw [← eM7]
      replace hw := hw _ eM7
      refine gh_aload_n dc_X6_feed_58 rfl ?_
      refine gh_getR (k := 0) (t := 0) dc_X6_feed_59 fl_RX6_18 (by decide) (by decide) rfl rfl ?_
      refine gh_getI (k := 4) (t := 0) dc_X6_feed_62 fl_RX6_106 (by decide) (by decide) rfl rfl ?_
      exact gh_iret dc_X6_feed_65 hE rfl hw
    · replace hw := hw.2 c4
      refine gh_ldc (v := (-1000003 : Int32)) dc_X6_feed_26 tw_325 ?_
      exact gh_iret dc_X6_feed_28 hE rfl hw
  · replace hw := hw.2 c3
    refine gh_ldc (v := (-1000001 : Int32)) dc_X6_feed_11 tw_281 ?_
    exact gh_iret dc_X6_feed_13 hE rfl hw
theorem lk_J7_fill_53178_k20_5 {wd : gh_Wd} {x : gh_X} {Q : gh_M → Prop} {t0 : Nat} (ht0 : t0 < 29) (hE : gh_E wd (gh_Qv Q) x)   : ∀ (n : Nat) (x1 : Int32) (x2 : Int32) (x3 : Int32) (M : gh_M), wl_J7_fill_53178_k20_5 t0 Q n x1 x2 x3 M → gh_J mi_J7_fill_53178 1 wd x M 5 [some (vR 20 t0), some (vI x1), some (vI x2), some (vI x3)] [] := by
  intro n
  induction n with
  | zero => intro x1 x2 x3 M hw; exact hw.elim
  | succ n ih =>
    intro x1 x2 x3 M hw
    unfold wl_J7_fill_53178_k20_5 at hw
    refine gh_iload_n dc_J7_fill_53178_5 rfl ?_
    refine gh_iload_n dc_J7_fill_53178_6 rfl ?_
    refine gh_icmp_ge (tgt := 20) dc_J7_fill_53178_7 rfl (fun c1 => ?_) (fun c1 => ?_)
    · replace hw := hw.1 c1
      exact gh_vret dc_J7_fill_53178_20 hE rfl hw
    · replace hw := hw.2 c1
      refine gh_aload_n dc_J7_fill_53178_10 rfl ?_
      refine gh_iload_n dc_J7_fill_53178_11 rfl ?_
      refine gh_iload_n dc_J7_fill_53178_12 rfl ?_
      obtain ⟨h2, hw⟩ := hw
      refine gh_iast (k := 20) (t := t0) dc_J7_fill_53178_13 rfl (by decide) ht0 h2 ?_
      obtain ⟨M3, eM3⟩ : ∃ z, z = (gh_st M 20 t0 x2.toNatClampNeg x1) := ⟨_, rfl⟩
      rw [← eM3]
      replace hw := hw _ eM3
      obtain ⟨y2_4, ey2_4⟩ : ∃ z, z = (x2 + (nI 1)) := ⟨_, rfl⟩
      replace hw := hw _ ey2_4
      refine gh_iinc (v := y2_4) (L' := [some (vR 20 t0), some (vI x1), some (vI y2_4), some (vI x3)]) dc_J7_fill_53178_14 rfl ((congrArg (fun z => x2 + z) gc_1).trans ey2_4.symm) (by decide) rfl rfl ?_
      refine gh_goto (tgt := 5) dc_J7_fill_53178_17 rfl ?_
      refine gh_drop (pc' := 0) [some (vR 20 t0), some (vI x1), some (vI y2_4), some (vI x3)] ⟨rfl, rfl, rfl, rfl, trivial⟩ ?_
      exact ih _ _ _ _ hw
theorem wk_J7_fill_53178_k20 {t0 : Nat} (ht0 : t0 < 29) (Q : gh_M → Prop) (a0 : Int32) (M : gh_M) (hw : wp_J7_fill_53178_k20 t0 a0 M Q) : gh_Calls 1 mi_J7_fill_53178 [vR 20 t0, vI a0] M (gh_Qv Q) := by
  refine gh_of (by decide) rfl 2 rfl (L0 := [some (vR 20 t0), some (vI a0), none, none]) rfl (fun wd x hE => ?_)
  unfold wp_J7_fill_53178_k20 at hw
  refine gh_iconst (v := (nI 0)) dc_J7_fill_53178_0 gc_0 ?_
  refine gh_istore_n (L' := [some (vR 20 t0), some (vI a0), some (vI (nI 0)), none]) dc_J7_fill_53178_1 (by decide) rfl rfl ?_
  refine gh_aload_n dc_J7_fill_53178_2 rfl ?_
  refine gh_alen (k := 20) (t := t0) dc_J7_fill_53178_3 rfl (by decide) ht0 ?_
  refine gh_istore_n (L' := [some (vR 20 t0), some (vI a0), some (vI (nI 0)), some (vI (nI 12))]) dc_J7_fill_53178_4 (by decide) rfl rfl ?_
  refine gh_drop (pc' := 0) [some (vR 20 t0), some (vI a0), some (vI (nI 0)), some (vI (nI 12))] ⟨rfl, rfl, rfl, rfl, trivial⟩ ?_
  obtain ⟨k, hw⟩ := hw
  exact lk_J7_fill_53178_k20_5 ht0 hE  k _ _ _ _ hw
theorem wk_X5_clear {t0 : Nat} (ht0 : t0 < 29) (Q : gh_M → Prop)  (M : gh_M) (hw : wp_X5_clear t0  M Q) : gh_Calls 2 mi_X5_clear [vR 6 t0] M (gh_Qv Q) := by
  refine gh_of (by decide) rfl 0 rfl (L0 := [some (vR 6 t0)]) rfl (fun wd x hE => ?_)
  unfold wp_X5_clear at hw
  refine gh_aload_n dc_X5_clear_0 rfl ?_
  refine gh_iconst (v := (nI 0)) dc_X5_clear_1 gc_0 ?_
  refine gh_put (k := 6) (t := t0) dc_X5_clear_2 fl_RX5_55 (by decide) ht0 rfl rfl (fun _ h => by cases h; rfl) rfl rfl ?_
  obtain ⟨M1, eM1⟩ : ∃ z, z = (gh_st M 6 t0 0 (nI 0)) := ⟨_, rfl⟩
  rw [← eM1]
  replace hw := hw _ eM1
  refine gh_aload_n dc_X5_clear_5 rfl ?_
  refine gh_iconst (v := (nI 0)) dc_X5_clear_6 gc_0 ?_
  refine gh_put (k := 6) (t := t0) dc_X5_clear_7 fl_RX5_59 (by decide) ht0 rfl rfl (fun _ h => by cases h; rfl) rfl rfl ?_
  obtain ⟨M2, eM2⟩ : ∃ z, z = (gh_st M1 6 t0 1 (nI 0)) := ⟨_, rfl⟩
  rw [← eM2]
  replace hw := hw _ eM2
  refine gh_aload_n dc_X5_clear_10 rfl ?_
  refine gh_iconst (v := (nI 0)) dc_X5_clear_11 gc_0 ?_
  refine gh_put (k := 6) (t := t0) dc_X5_clear_12 fl_RX5_62 (by decide) ht0 rfl rfl (fun _ h => by cases h; rfl) rfl rfl ?_
  obtain ⟨M3, eM3⟩ : ∃ z, z = (gh_st M2 6 t0 2 (nI 0)) := ⟨_, rfl⟩
  rw [← eM3]
  replace hw := hw _ eM3
  refine gh_aload_n dc_X5_clear_15 rfl ?_
  refine gh_iconst (v := (nI 0)) dc_X5_clear_16 gc_0 ?_
  refine gh_put (k := 6) (t := t0) dc_X5_clear_17 fl_RX5_65 (by decide) ht0 rfl rfl (fun _ h => by cases h; rfl) rfl rfl ?_
  obtain ⟨M4, eM4⟩ : ∃ z, z = (gh_st M3 6 t0 3 (nI 0)) := ⟨_, rfl⟩
  rw [← eM4]
  replace hw := hw _ eM4
  refine gh_aload_n dc_X5_clear_20 rfl ?_
  refine gh_iconst (v := (nI 0)) dc_X5_clear_21 gc_0 ?_
  refine gh_put (k := 6) (t := t0) dc_X5_clear_22 fl_RX5_68 (by decide) ht0 rfl rfl (fun _ h => by cases h; rfl) rfl rfl ?_
  obtain ⟨M5, eM5⟩ : ∃ z, z = (gh_st M4 6 t0 4 (nI 0)) := ⟨_, rfl⟩
  rw [← eM5]
  replace hw := hw _ eM5
  refine gh_aload_n dc_X5_clear_25 rfl ?_
  refine gh_getR (k := 6) (t := t0) dc_X5_clear_26 fl_RX5_52 (by decide) ht0 rfl rfl ?_
  refine gh_iconst (v := (-1 : Int32)) dc_X5_clear_29 gc_m1 ?_
  refine gh_callSv (mi' := mi_J7_fill_53178) (as := [vR 20 t0, vI (-1 : Int32)]) (S := []) dc_X5_clear_30 ml_RX5_71 ok_J7_fill_53178 rfl rfl (by decide) (Nat.le_of_ble_eq_true rfl) (wk_J7_fill_53178_k20 ht0 _ _ _ hw) (fun M7 hw => ?_)
  exact gh_vret dc_X5_clear_33 hE rfl hw
theorem wk_X4_faulty   (Q : Int32 → gh_M → Prop) (a0 : Int32) (M : gh_M) (hw : wp_X4_faulty  a0 M Q) : gh_Calls 1 mi_X4_faulty [vR 4 0, vI a0] M (gh_Qi Q) := by
  refine gh_of (by decide) rfl 0 rfl (L0 := [some (vR 4 0), some (vI a0)]) rfl (fun wd x hE => ?_)
  unfold wp_X4_faulty at hw
  refine gh_aload_n dc_X4_faulty_0 rfl ?_
  refine gh_getI (k := 4) (t := 0) dc_X4_faulty_1 fl_RX4_19 (by decide) (by decide) rfl rfl ?_
  refine gh_if_ne (tgt := 12) dc_X4_faulty_4 rfl (fun c1 => ?_) (fun c1 => ?_)
  · replace hw := hw.1 c1
    refine gh_iconst (v := (nI 0)) dc_X4_faulty_12 gc_0 ?_
    exact gh_zret dc_X4_faulty_13 hE rfl (by decide) hw
  · replace hw := hw.2 c1
    refine gh_aload_n dc_X4_faulty_7 rfl ?_
    refine gh_iload_n dc_X4_faulty_8 rfl ?_
    refine gh_put (k := 4) (t := 0) dc_X4_faulty_9 fl_RX4_19 (by decide) (by decide) rfl rfl (fun _ h => by cases h; rfl) rfl rfl ?_
    obtain ⟨M2, eM2⟩ : ∃ z, z = (gh_st M 4 0 3 a0) := ⟨_, rfl⟩
    rw [← eM2]
    replace hw := hw _ eM2
    refine gh_iconst (v := (nI 0)) dc_X4_faulty_12 gc_0 ?_
    exact gh_zret dc_X4_faulty_13 hE rfl (by decide) hw
theorem wk_X4_next   (Q : Int32 → gh_M → Prop)  (M : gh_M) (hw : wp_X4_next   M Q) : gh_Calls 1 mi_X4_next [vR 4 0] M (gh_Qi Q) := by
  refine gh_of (by decide) rfl 0 rfl (L0 := [some (vR 4 0)]) rfl (fun wd x hE => ?_)
  unfold wp_X4_next at hw
  refine gh_aload_n dc_X4_next_0 rfl ?_
  refine gh_getI (k := 4) (t := 0) dc_X4_next_1 fl_RX4_15 (by decide) (by decide) rfl rfl ?_
  refine gh_aload_n dc_X4_next_4 rfl ?_
  refine gh_getI (k := 4) (t := 0) dc_X4_next_5 fl_RX4_63 (by decide) (by decide) rfl rfl ?_
  refine gh_icmp_ge (tgt := 32) dc_X4_next_8 rfl (fun c1 => ?_) (fun c1 => ?_)
  · replace hw := hw.1 c1
    refine gh_ldc (v := (-1000000 : Int32)) dc_X4_next_32 tw_351 ?_
    exact gh_iret dc_X4_next_34 hE rfl hw
  · replace hw := hw.2 c1
    refine gh_aload_n dc_X4_next_11 rfl ?_
    refine gh_getI (k := 4) (t := 0) dc_X4_next_12 fl_RX4_15 (by decide) (by decide) rfl rfl ?_
    refine gh_bipush (v := (nI 100)) dc_X4_next_15 gb_100 ?_
    refine gh_icmp_ge (tgt := 32) dc_X4_next_17 rfl (fun c2 => ?_) (fun c2 => ?_)
    · replace hw := hw.1 c2
      refine gh_ldc (v := (-1000000 : Int32)) dc_X4_next_32 tw_351 ?_
      exact gh_iret dc_X4_next_34 hE rfl hw
    · replace hw := hw.2 c2
      refine gh_aload_n dc_X4_next_20 rfl ?_
      refine gh_getR (k := 4) (t := 0) dc_X4_next_21 fl_RX4_9 (by decide) (by decide) rfl rfl ?_
      refine gh_aload_n dc_X4_next_24 rfl ?_
      refine gh_getI (k := 4) (t := 0) dc_X4_next_25 fl_RX4_15 (by decide) (by decide) rfl rfl ?_
      obtain ⟨h3, hw⟩ := hw
      refine gh_iald (k := 5) (t := 0) dc_X4_next_28 rfl (by decide) (by decide) h3 ?_
      refine gh_goto (tgt := 34) dc_X4_next_29 rfl ?_
      exact gh_iret dc_X4_next_34 hE rfl hw
theorem wk_X4_readSign   (Q : Int32 → gh_M → Prop) (a0 : Int32) (M : gh_M) (hw : wp_X4_readSign  a0 M Q) : gh_Calls 2 mi_X4_readSign [vR 4 0, vI a0] M (gh_Qi Q) := by
  refine gh_of (by decide) rfl 0 rfl (L0 := [some (vR 4 0), some (vI a0)]) rfl (fun wd x hE => ?_)
  unfold wp_X4_readSign at hw
  refine gh_aload_n dc_X4_readSign_0 rfl ?_
  refine gh_getI (k := 4) (t := 0) dc_X4_readSign_1 fl_RX4_19 (by decide) (by decide) rfl rfl ?_
  refine gh_if_ne (tgt := 15) dc_X4_readSign_4 rfl (fun c1 => ?_) (fun c1 => ?_)
  · replace hw := hw.1 c1
    refine gh_aload_n dc_X4_readSign_15 rfl ?_
    refine gh_iconst (v := (nI 1)) dc_X4_readSign_16 gc_1 ?_
    refine gh_callVi (mi' := mi_X4_faulty) (as := [vI (nI 1)]) (S := []) (k := 4) (t := 0) dc_X4_readSign_17 ml_RX4_56 ok_X4_faulty rfl rfl (by decide) (Nat.le_of_ble_eq_true rfl) (by decide) (by decide) rfl rfl (wk_X4_faulty _ _ _ hw) (fun r2 M3 hw => ?_)
    exact gh_zret dc_X4_readSign_20 hE rfl hw.1 hw.2
  · replace hw := hw.2 c1
    refine gh_aload_n dc_X4_readSign_7 rfl ?_
    refine gh_callVi (mi' := mi_X4_next) (as := []) (S := []) (k := 4) (t := 0) dc_X4_readSign_8 ml_RX4_48 ok_X4_next rfl rfl (by decide) (Nat.le_of_ble_eq_true rfl) (by decide) (by decide) rfl rfl (wk_X4_next _ _ hw) (fun r4 M5 hw => ?_)
    refine gh_iload_n dc_X4_readSign_11 rfl ?_
    refine gh_icmp_eq (tgt := 21) dc_X4_readSign_12 rfl (fun c6 => ?_) (fun c6 => ?_)
    · replace hw := hw.1 c6
      refine gh_aload_n dc_X4_readSign_21 rfl ?_
      refine gh_dupR dc_X4_readSign_22 ?_
      refine gh_getI (k := 4) (t := 0) dc_X4_readSign_23 fl_RX4_15 (by decide) (by decide) rfl rfl ?_
      refine gh_iconst (v := (nI 1)) dc_X4_readSign_26 gc_1 ?_
      refine gh_iadd dc_X4_readSign_27 ?_
      refine gh_put (k := 4) (t := 0) dc_X4_readSign_28 fl_RX4_15 (by decide) (by decide) rfl rfl (fun _ h => by cases h; rfl) rfl rfl ?_
      obtain ⟨M7, eM7⟩ : ∃ z, z = (gh_st M5 4 0 2 ((M5 4 0 2) + (nI 1))) := ⟨_, rfl⟩
      rw [← eM7]
      replace hw := hw _ eM7
      refine gh_iconst (v := (nI 1)) dc_X4_readSign_31 gc_1 ?_
      exact gh_zret dc_X4_readSign_32 hE rfl (by decide) hw
    · replace hw := hw.2 c6
      refine gh_aload_n dc_X4_readSign_15 rfl ?_
      refine gh_iconst (v := (nI 1)) dc_X4_readSign_16 gc_1 ?_
      refine gh_callVi (mi' := mi_X4_faulty) (as := [vI (nI 1)]) (S := []) (k := 4) (t := 0) dc_X4_readSign_17 ml_RX4_56 ok_X4_faulty rfl rfl (by decide) (Nat.le_of_ble_eq_true rfl) (by decide) (by decide) rfl rfl (wk_X4_faulty _ _ _ hw) (fun r8 M9 hw => ?_)
      exact gh_zret dc_X4_readSign_20 hE rfl hw.1 hw.2
theorem lk_X4_readNumber_11 {wd : gh_Wd} {x : gh_X} {Q : Int32 → gh_M → Prop}   (hE : gh_E wd (gh_Qi Q) x)   : ∀ (n : Nat) (x1 : Int32) (x2 : Int32) (x3 : Int32) (x4 : Int32) (x5 : Int32) (M : gh_M), wl_X4_readNumber_11 Q n x1 x2 x3 x4 x5 M → gh_J mi_X4_readNumber 2 wd x M 11 [some (vR 4 0), some (vI x1), some (vI x2), some (vI x3), some (vI x4), some (vI x5)] [] := by
  intro n
  induction n with
  | zero => intro x1 x2 x3 x4 x5 M hw; exact hw.elim
  | succ n ih =>
    intro x1 x2 x3 x4 x5 M hw
    unfold wl_X4_readNumber_11 at hw
    refine gh_iload dc_X4_readNumber_11 rfl ?_
    refine gh_aload_n dc_X4_readNumber_13 rfl ?_
    refine gh_getI (k := 4) (t := 0) dc_X4_readNumber_14 fl_RX4_63 (by decide) (by decide) rfl rfl ?_
    refine gh_icmp_ge (tgt := 81) dc_X4_readNumber_17 rfl (fun c2 => ?_) (fun c2 => ?_)
    · replace hw := hw.1 c2
      refine gh_aload_n dc_X4_readNumber_81 rfl ?_
      refine gh_getI (k := 4) (t := 0) dc_X4_readNumber_82 fl_RX4_19 (by decide) (by decide) rfl rfl ?_
      refine gh_if_ne (tgt := 98) dc_X4_readNumber_85 rfl (fun c3 => ?_) (fun c3 => ?_)
      · replace hw := hw.1 c3
        refine gh_aload_n dc_X4_readNumber_98 rfl ?_
        refine gh_iconst (v := (nI 1)) dc_X4_readNumber_99 gc_1 ?_
        refine gh_callVi (mi' := mi_X4_faulty) (as := [vI (nI 1)]) (S := []) (k := 4) (t := 0) dc_X4_readNumber_100 ml_RX4_56 ok_X4_faulty rfl rfl (by decide) (Nat.le_of_ble_eq_true rfl) (by decide) (by decide) rfl rfl (wk_X4_faulty _ _ _ hw) (fun r4 M5 hw => ?_)
        refine gh_popI dc_X4_readNumber_103 ?_
        refine gh_iload_n dc_X4_readNumber_104 rfl ?_
        exact gh_iret dc_X4_readNumber_105 hE rfl hw
      · replace hw := hw.2 c3
        refine gh_iload_n dc_X4_readNumber_88 rfl ?_
        refine gh_iconst (v := (nI 1)) dc_X4_readNumber_89 gc_1 ?_
        refine gh_icmp_lt (tgt := 98) dc_X4_readNumber_90 rfl (fun c6 => ?_) (fun c6 => ?_)
        · replace hw := hw.1 c6
          refine gh_aload_n dc_X4_readNumber_98 rfl ?_
          refine gh_iconst (v := (nI 1)) dc_X4_readNumber_99 gc_1 ?_
          refine gh_callVi (mi' := mi_X4_faulty) (as := [vI (nI 1)]) (S := []) (k := 4) (t := 0) dc_X4_readNumber_100 ml_RX4_56 ok_X4_faulty rfl rfl (by decide) (Nat.le_of_ble_eq_true rfl) (by decide) (by decide) rfl rfl (wk_X4_faulty _ _ _ hw) (fun r7 M8 hw => ?_)
          refine gh_popI dc_X4_readNumber_103 ?_
          refine gh_iload_n dc_X4_readNumber_104 rfl ?_
          exact gh_iret dc_X4_readNumber_105 hE rfl hw
        · replace hw := hw.2 c6
          refine gh_iload_n dc_X4_readNumber_93 rfl ?_
          refine gh_iconst (v := (nI 2)) dc_X4_readNumber_94 gc_2 ?_
          refine gh_icmp_le (tgt := 106) dc_X4_readNumber_95 rfl (fun c9 => ?_) (fun c9 => ?_)
          · replace hw := hw.1 c9
            refine gh_iload dc_X4_readNumber_106 rfl ?_
            refine gh_iload_n dc_X4_readNumber_108 rfl ?_
            refine gh_iload_n dc_X4_readNumber_109 rfl ?_
            refine gh_callSi (mi' := mi_X6_within) (as := [vI x4, vI x1, vI x2]) (S := []) dc_X4_readNumber_110 ml_RX4_70 ok_X6_within rfl rfl (by decide) (Nat.le_of_ble_eq_true rfl) (wk_X6_within _ _ _ _ _ hw) (fun r10 M11 hw => ?_)
            refine gh_if_ne (tgt := 124) dc_X4_readNumber_113 rfl (fun c12 => ?_) (fun c12 => ?_)
            · replace hw := hw.1 c12
              refine gh_aload_n dc_X4_readNumber_124 rfl ?_
              refine gh_dupR dc_X4_readNumber_125 ?_
              refine gh_getI (k := 4) (t := 0) dc_X4_readNumber_126 fl_RX4_15 (by decide) (by decide) rfl rfl ?_
              refine gh_iload_n dc_X4_readNumber_129 rfl ?_
              refine gh_iadd dc_X4_readNumber_130 ?_
              refine gh_put (k := 4) (t := 0) dc_X4_readNumber_131 fl_RX4_15 (by decide) (by decide) rfl rfl (fun _ h => by cases h; rfl) rfl rfl ?_
              obtain ⟨M13, eM13⟩ : ∃ z, z = (gh_st M11 4 0 2 ((M11 4 0 2) + x3)) := ⟨_, rfl⟩
              rw [← eM13]
              replace hw := hw _ eM13
              refine gh_iload dc_X4_readNumber_134 rfl ?_
              exact gh_iret dc_X4_readNumber_136 hE rfl hw
            · replace hw := hw.2 c12
              refine gh_aload_n dc_X4_readNumber_116 rfl ?_
              refine gh_iconst (v := (nI 2)) dc_X4_readNumber_117 gc_2 ?_
              refine gh_callVi (mi' := mi_X4_faulty) (as := [vI (nI 2)]) (S := []) (k := 4) (t := 0) dc_X4_readNumber_118 ml_RX4_56 ok_X4_faulty rfl rfl (by decide) (Nat.le_of_ble_eq_true rfl) (by decide) (by decide) rfl rfl (wk_X4_faulty _ _ _ hw) (fun r14 M15 hw => ?_)
              refine gh_popI dc_X4_readNumber_121 ?_
              refine gh_iload_n dc_X4_readNumber_122 rfl ?_
              exact gh_iret dc_X4_readNumber_123 hE rfl hw
          · replace hw := hw.2 c9
            refine gh_aload_n dc_X4_readNumber_98 rfl ?_
            refine gh_iconst (v := (nI 1)) dc_X4_readNumber_99 gc_1 ?_
            refine gh_callVi (mi' := mi_X4_faulty) (as := [vI (nI 1)]) (S := []) (k := 4) (t := 0) dc_X4_readNumber_100 ml_RX4_56 ok_X4_faulty rfl rfl (by decide) (Nat.le_of_ble_eq_true rfl) (by decide) (by decide) rfl rfl (wk_X4_faulty _ _ _ hw) (fun r16 M17 hw => ?_)
            refine gh_popI dc_X4_readNumber_103 ?_
            refine gh_iload_n dc_X4_readNumber_104 rfl ?_
            exact gh_iret dc_X4_readNumber_105 hE rfl hw
    · replace hw := hw.2 c2
      refine gh_iload dc_X4_readNumber_20 rfl ?_
      refine gh_bipush (v := (nI 100)) dc_X4_readNumber_22 gb_100 ?_
      refine gh_icmp_ge (tgt := 81) dc_X4_readNumber_24 rfl (fun c18 => ?_) (fun c18 => ?_)
      · replace hw := hw.1 c18
        refine gh_aload_n dc_X4_readNumber_81 rfl ?_
        refine gh_getI (k := 4) (t := 0) dc_X4_readNumber_82 fl_RX4_19 (by decide) (by decide) rfl rfl ?_
        refine gh_if_ne (tgt := 98) dc_X4_readNumber_85 rfl (fun c19 => ?_) (fun c19 => ?_)
        · replace hw := hw.1 c19
          refine gh_aload_n dc_X4_readNumber_98 rfl ?_
          refine gh_iconst (v := (nI 1)) dc_X4_readNumber_99 gc_1 ?_
          refine gh_callVi (mi' := mi_X4_faulty) (as := [vI (nI 1)]) (S := []) (k := 4) (t := 0) dc_X4_readNumber_100 ml_RX4_56 ok_X4_faulty rfl rfl (by decide) (Nat.le_of_ble_eq_true rfl) (by decide) (by decide) rfl rfl (wk_X4_faulty _ _ _ hw) (fun r20 M21 hw => ?_)
          refine gh_popI dc_X4_readNumber_103 ?_
          refine gh_iload_n dc_X4_readNumber_104 rfl ?_
          exact gh_iret dc_X4_readNumber_105 hE rfl hw
        · replace hw := hw.2 c19
          refine gh_iload_n dc_X4_readNumber_88 rfl ?_
          refine gh_iconst (v := (nI 1)) dc_X4_readNumber_89 gc_1 ?_
          refine gh_icmp_lt (tgt := 98) dc_X4_readNumber_90 rfl (fun c22 => ?_) (fun c22 => ?_)
          · replace hw := hw.1 c22
            refine gh_aload_n dc_X4_readNumber_98 rfl ?_
            refine gh_iconst (v := (nI 1)) dc_X4_readNumber_99 gc_1 ?_
            refine gh_callVi (mi' := mi_X4_faulty) (as := [vI (nI 1)]) (S := []) (k := 4) (t := 0) dc_X4_readNumber_100 ml_RX4_56 ok_X4_faulty rfl rfl (by decide) (Nat.le_of_ble_eq_true rfl) (by decide) (by decide) rfl rfl (wk_X4_faulty _ _ _ hw) (fun r23 M24 hw => ?_)
            refine gh_popI dc_X4_readNumber_103 ?_
            refine gh_iload_n dc_X4_readNumber_104 rfl ?_
            exact gh_iret dc_X4_readNumber_105 hE rfl hw
          · replace hw := hw.2 c22
            refine gh_iload_n dc_X4_readNumber_93 rfl ?_
            refine gh_iconst (v := (nI 2)) dc_X4_readNumber_94 gc_2 ?_
            refine gh_icmp_le (tgt := 106) dc_X4_readNumber_95 rfl (fun c25 => ?_) (fun c25 => ?_)
            · replace hw := hw.1 c25
              refine gh_iload dc_X4_readNumber_106 rfl ?_
              refine gh_iload_n dc_X4_readNumber_108 rfl ?_
              refine gh_iload_n dc_X4_readNumber_109 rfl ?_
              refine gh_callSi (mi' := mi_X6_within) (as := [vI x4, vI x1, vI x2]) (S := []) dc_X4_readNumber_110 ml_RX4_70 ok_X6_within rfl rfl (by decide) (Nat.le_of_ble_eq_true rfl) (wk_X6_within _ _ _ _ _ hw) (fun r26 M27 hw => ?_)
              refine gh_if_ne (tgt := 124) dc_X4_readNumber_113 rfl (fun c28 => ?_) (fun c28 => ?_)
              · replace hw := hw.1 c28
                refine gh_aload_n dc_X4_readNumber_124 rfl ?_
                refine gh_dupR dc_X4_readNumber_125 ?_
                refine gh_getI (k := 4) (t := 0) dc_X4_readNumber_126 fl_RX4_15 (by decide) (by decide) rfl rfl ?_
                refine gh_iload_n dc_X4_readNumber_129 rfl ?_
                refine gh_iadd dc_X4_readNumber_130 ?_
                refine gh_put (k := 4) (t := 0) dc_X4_readNumber_131 fl_RX4_15 (by decide) (by decide) rfl rfl (fun _ h => by cases h; rfl) rfl rfl ?_
                obtain ⟨M29, eM29⟩ : ∃ z, z = (gh_st M27 4 0 2 ((M27 4 0 2) + x3)) := ⟨_, rfl⟩
                rw [← eM29]
                replace hw := hw _ eM29
                refine gh_iload dc_X4_readNumber_134 rfl ?_
                exact gh_iret dc_X4_readNumber_136 hE rfl hw
              · replace hw := hw.2 c28
                refine gh_aload_n dc_X4_readNumber_116 rfl ?_
                refine gh_iconst (v := (nI 2)) dc_X4_readNumber_117 gc_2 ?_
                refine gh_callVi (mi' := mi_X4_faulty) (as := [vI (nI 2)]) (S := []) (k := 4) (t := 0) dc_X4_readNumber_118 ml_RX4_56 ok_X4_faulty rfl rfl (by decide) (Nat.le_of_ble_eq_true rfl) (by decide) (by decide) rfl rfl (wk_X4_faulty _ _ _ hw) (fun r30 M31 hw => ?_)
                refine gh_popI dc_X4_readNumber_121 ?_
                refine gh_iload_n dc_X4_readNumber_122 rfl ?_
                exact gh_iret dc_X4_readNumber_123 hE rfl hw
            · replace hw := hw.2 c25
              refine gh_aload_n dc_X4_readNumber_98 rfl ?_
              refine gh_iconst (v := (nI 1)) dc_X4_readNumber_99 gc_1 ?_
              refine gh_callVi (mi' := mi_X4_faulty) (as := [vI (nI 1)]) (S := []) (k := 4) (t := 0) dc_X4_readNumber_100 ml_RX4_56 ok_X4_faulty rfl rfl (by decide) (Nat.le_of_ble_eq_true rfl) (by decide) (by decide) rfl rfl (wk_X4_faulty _ _ _ hw) (fun r32 M33 hw => ?_)
              refine gh_popI dc_X4_readNumber_103 ?_
              refine gh_iload_n dc_X4_readNumber_104 rfl ?_
              exact gh_iret dc_X4_readNumber_105 hE rfl hw
      · replace hw := hw.2 c18
        refine gh_aload_n dc_X4_readNumber_27 rfl ?_
        refine gh_getR (k := 4) (t := 0) dc_X4_readNumber_28 fl_RX4_9 (by decide) (by decide) rfl rfl ?_
        refine gh_iload dc_X4_readNumber_31 rfl ?_
        obtain ⟨h34, hw⟩ := hw
        refine gh_iald (k := 5) (t := 0) dc_X4_readNumber_33 rfl (by decide) (by decide) h34 ?_
        refine gh_bipush (v := (nI 48)) dc_X4_readNumber_34 gb_48 ?_
        refine gh_bipush (v := (nI 57)) dc_X4_readNumber_36 gb_57 ?_
        refine gh_callSi (mi' := mi_X6_within) (as := [vI (M 5 0 x5.toNatClampNeg), vI (nI 48), vI (nI 57)]) (S := []) dc_X4_readNumber_38 ml_RX4_70 ok_X6_within rfl rfl (by decide) (Nat.le_of_ble_eq_true rfl) (wk_X6_within _ _ _ _ _ hw) (fun r35 M36 hw => ?_)
        refine gh_if_eq (tgt := 81) dc_X4_readNumber_41 rfl (fun c37 => ?_) (fun c37 => ?_)
        · replace hw := hw.1 c37
          refine gh_aload_n dc_X4_readNumber_81 rfl ?_
          refine gh_getI (k := 4) (t := 0) dc_X4_readNumber_82 fl_RX4_19 (by decide) (by decide) rfl rfl ?_
          refine gh_if_ne (tgt := 98) dc_X4_readNumber_85 rfl (fun c38 => ?_) (fun c38 => ?_)
          · replace hw := hw.1 c38
            refine gh_aload_n dc_X4_readNumber_98 rfl ?_
            refine gh_iconst (v := (nI 1)) dc_X4_readNumber_99 gc_1 ?_
            refine gh_callVi (mi' := mi_X4_faulty) (as := [vI (nI 1)]) (S := []) (k := 4) (t := 0) dc_X4_readNumber_100 ml_RX4_56 ok_X4_faulty rfl rfl (by decide) (Nat.le_of_ble_eq_true rfl) (by decide) (by decide) rfl rfl (wk_X4_faulty _ _ _ hw) (fun r39 M40 hw => ?_)
            refine gh_popI dc_X4_readNumber_103 ?_
            refine gh_iload_n dc_X4_readNumber_104 rfl ?_
            exact gh_iret dc_X4_readNumber_105 hE rfl hw
          · replace hw := hw.2 c38
            refine gh_iload_n dc_X4_readNumber_88 rfl ?_
            refine gh_iconst (v := (nI 1)) dc_X4_readNumber_89 gc_1 ?_
            refine gh_icmp_lt (tgt := 98) dc_X4_readNumber_90 rfl (fun c41 => ?_) (fun c41 => ?_)
            · replace hw := hw.1 c41
              refine gh_aload_n dc_X4_readNumber_98 rfl ?_
              refine gh_iconst (v := (nI 1)) dc_X4_readNumber_99 gc_1 ?_
              refine gh_callVi (mi' := mi_X4_faulty) (as := [vI (nI 1)]) (S := []) (k := 4) (t := 0) dc_X4_readNumber_100 ml_RX4_56 ok_X4_faulty rfl rfl (by decide) (Nat.le_of_ble_eq_true rfl) (by decide) (by decide) rfl rfl (wk_X4_faulty _ _ _ hw) (fun r42 M43 hw => ?_)
              refine gh_popI dc_X4_readNumber_103 ?_
              refine gh_iload_n dc_X4_readNumber_104 rfl ?_
              exact gh_iret dc_X4_readNumber_105 hE rfl hw
            · replace hw := hw.2 c41
              refine gh_iload_n dc_X4_readNumber_93 rfl ?_
              refine gh_iconst (v := (nI 2)) dc_X4_readNumber_94 gc_2 ?_
              refine gh_icmp_le (tgt := 106) dc_X4_readNumber_95 rfl (fun c44 => ?_) (fun c44 => ?_)
              · replace hw := hw.1 c44
                refine gh_iload dc_X4_readNumber_106 rfl ?_
                refine gh_iload_n dc_X4_readNumber_108 rfl ?_
                refine gh_iload_n dc_X4_readNumber_109 rfl ?_
                refine gh_callSi (mi' := mi_X6_within) (as := [vI x4, vI x1, vI x2]) (S := []) dc_X4_readNumber_110 ml_RX4_70 ok_X6_within rfl rfl (by decide) (Nat.le_of_ble_eq_true rfl) (wk_X6_within _ _ _ _ _ hw) (fun r45 M46 hw => ?_)
                refine gh_if_ne (tgt := 124) dc_X4_readNumber_113 rfl (fun c47 => ?_) (fun c47 => ?_)
                · replace hw := hw.1 c47
                  refine gh_aload_n dc_X4_readNumber_124 rfl ?_
                  refine gh_dupR dc_X4_readNumber_125 ?_
                  refine gh_getI (k := 4) (t := 0) dc_X4_readNumber_126 fl_RX4_15 (by decide) (by decide) rfl rfl ?_
                  refine gh_iload_n dc_X4_readNumber_129 rfl ?_
                  refine gh_iadd dc_X4_readNumber_130 ?_
                  refine gh_put (k := 4) (t := 0) dc_X4_readNumber_131 fl_RX4_15 (by decide) (by decide) rfl rfl (fun _ h => by cases h; rfl) rfl rfl ?_
                  obtain ⟨M48, eM48⟩ : ∃ z, z = (gh_st M46 4 0 2 ((M46 4 0 2) + x3)) := ⟨_, rfl⟩
                  rw [← eM48]
                  replace hw := hw _ eM48
                  refine gh_iload dc_X4_readNumber_134 rfl ?_
                  exact gh_iret dc_X4_readNumber_136 hE rfl hw
                · replace hw := hw.2 c47
                  refine gh_aload_n dc_X4_readNumber_116 rfl ?_
                  refine gh_iconst (v := (nI 2)) dc_X4_readNumber_117 gc_2 ?_
                  refine gh_callVi (mi' := mi_X4_faulty) (as := [vI (nI 2)]) (S := []) (k := 4) (t := 0) dc_X4_readNumber_118 ml_RX4_56 ok_X4_faulty rfl rfl (by decide) (Nat.le_of_ble_eq_true rfl) (by decide) (by decide) rfl rfl (wk_X4_faulty _ _ _ hw) (fun r49 M50 hw => ?_)
                  refine gh_popI dc_X4_readNumber_121 ?_
                  refine gh_iload_n dc_X4_readNumber_122 rfl ?_
                  exact gh_iret dc_X4_readNumber_123 hE rfl hw
              · replace hw := hw.2 c44
                refine gh_aload_n dc_X4_readNumber_98 rfl ?_
                refine gh_iconst (v := (nI 1)) dc_X4_readNumber_99 gc_1 ?_
                refine gh_callVi (mi' := mi_X4_faulty) (as := [vI (nI 1)]) (S := []) (k := 4) (t := 0) dc_X4_readNumber_100 ml_RX4_56 ok_X4_faulty rfl rfl (by decide) (Nat.le_of_ble_eq_true rfl) (by decide) (by decide) rfl rfl (wk_X4_faulty _ _ _ hw) (fun r51 M52 hw => ?_)
                refine gh_popI dc_X4_readNumber_103 ?_
                refine gh_iload_n dc_X4_readNumber_104 rfl ?_
                exact gh_iret dc_X4_readNumber_105 hE rfl hw
        · replace hw := hw.2 c37
          obtain ⟨y3_53, ey3_53⟩ : ∃ z, z = (x3 + (nI 1)) := ⟨_, rfl⟩
          replace hw := hw _ ey3_53
          refine gh_iinc (v := y3_53) (L' := [some (vR 4 0), some (vI x1), some (vI x2), some (vI y3_53), some (vI x4), some (vI x5)]) dc_X4_readNumber_44 rfl ((congrArg (fun z => x3 + z) gc_1).trans ey3_53.symm) (by decide) rfl rfl ?_
          refine gh_iload_n dc_X4_readNumber_47 rfl ?_
          refine gh_iconst (v := (nI 2)) dc_X4_readNumber_48 gc_2 ?_
          refine gh_icmp_le (tgt := 57) dc_X4_readNumber_49 rfl (fun c54 => ?_) (fun c54 => ?_)
          · replace hw := hw.1 c54
            refine gh_bipush (v := (nI 10)) dc_X4_readNumber_57 gb_10 ?_
            refine gh_iload dc_X4_readNumber_59 rfl ?_
            refine gh_imul dc_X4_readNumber_61 ?_
            refine gh_aload_n dc_X4_readNumber_62 rfl ?_
            refine gh_getR (k := 4) (t := 0) dc_X4_readNumber_63 fl_RX4_9 (by decide) (by decide) rfl rfl ?_
            refine gh_iload dc_X4_readNumber_66 rfl ?_
            obtain ⟨h55, hw⟩ := hw
            refine gh_iald (k := 5) (t := 0) dc_X4_readNumber_68 rfl (by decide) (by decide) h55 ?_
            refine gh_iadd dc_X4_readNumber_69 ?_
            refine gh_bipush (v := (nI 48)) dc_X4_readNumber_70 gb_48 ?_
            refine gh_isub dc_X4_readNumber_72 ?_
            obtain ⟨y4_56, ey4_56⟩ : ∃ z, z = ((((nI 10) * x4) + (M36 5 0 x5.toNatClampNeg)) - (nI 48)) := ⟨_, rfl⟩
            rw [← ey4_56]
            replace hw := hw _ ey4_56
            refine gh_istore (L' := [some (vR 4 0), some (vI x1), some (vI x2), some (vI y3_53), some (vI y4_56), some (vI x5)]) dc_X4_readNumber_73 (by decide) rfl rfl ?_
            obtain ⟨y5_57, ey5_57⟩ : ∃ z, z = (x5 + (nI 1)) := ⟨_, rfl⟩
            replace hw := hw _ ey5_57
            refine gh_iinc (v := y5_57) (L' := [some (vR 4 0), some (vI x1), some (vI x2), some (vI y3_53), some (vI y4_56), some (vI y5_57)]) dc_X4_readNumber_75 rfl ((congrArg (fun z => x5 + z) gc_1).trans ey5_57.symm) (by decide) rfl rfl ?_
            refine gh_goto (tgt := 11) dc_X4_readNumber_78 rfl ?_
            refine gh_drop (pc' := 0) [some (vR 4 0), some (vI x1), some (vI x2), some (vI y3_53), some (vI y4_56), some (vI y5_57)] ⟨rfl, rfl, rfl, rfl, rfl, rfl, trivial⟩ ?_
            exact ih _ _ _ _ _ _ hw
          · replace hw := hw.2 c54
            refine gh_iload dc_X4_readNumber_52 rfl ?_
            refine gh_goto (tgt := 73) dc_X4_readNumber_54 rfl ?_
            refine gh_istore (L' := [some (vR 4 0), some (vI x1), some (vI x2), some (vI y3_53), some (vI x4), some (vI x5)]) dc_X4_readNumber_73 (by decide) rfl rfl ?_
            obtain ⟨y5_58, ey5_58⟩ : ∃ z, z = (x5 + (nI 1)) := ⟨_, rfl⟩
            replace hw := hw _ ey5_58
            refine gh_iinc (v := y5_58) (L' := [some (vR 4 0), some (vI x1), some (vI x2), some (vI y3_53), some (vI x4), some (vI y5_58)]) dc_X4_readNumber_75 rfl ((congrArg (fun z => x5 + z) gc_1).trans ey5_58.symm) (by decide) rfl rfl ?_
            refine gh_goto (tgt := 11) dc_X4_readNumber_78 rfl ?_
            refine gh_drop (pc' := 0) [some (vR 4 0), some (vI x1), some (vI x2), some (vI y3_53), some (vI x4), some (vI y5_58)] ⟨rfl, rfl, rfl, rfl, rfl, rfl, trivial⟩ ?_
            exact ih _ _ _ _ _ _ hw
theorem wk_X4_readNumber   (Q : Int32 → gh_M → Prop) (a0 : Int32) (a1 : Int32) (M : gh_M) (hw : wp_X4_readNumber  a0 a1 M Q) : gh_Calls 2 mi_X4_readNumber [vR 4 0, vI a0, vI a1] M (gh_Qi Q) := by
  refine gh_of (by decide) rfl 3 rfl (L0 := [some (vR 4 0), some (vI a0), some (vI a1), none, none, none]) rfl (fun wd x hE => ?_)
  unfold wp_X4_readNumber at hw
  refine gh_iconst (v := (nI 0)) dc_X4_readNumber_0 gc_0 ?_
  refine gh_istore_n (L' := [some (vR 4 0), some (vI a0), some (vI a1), some (vI (nI 0)), none, none]) dc_X4_readNumber_1 (by decide) rfl rfl ?_
  refine gh_iconst (v := (nI 0)) dc_X4_readNumber_2 gc_0 ?_
  refine gh_istore (L' := [some (vR 4 0), some (vI a0), some (vI a1), some (vI (nI 0)), some (vI (nI 0)), none]) dc_X4_readNumber_3 (by decide) rfl rfl ?_
  refine gh_aload_n dc_X4_readNumber_5 rfl ?_
  refine gh_getI (k := 4) (t := 0) dc_X4_readNumber_6 fl_RX4_15 (by decide) (by decide) rfl rfl ?_
  obtain ⟨y5_1, ey5_1⟩ : ∃ z, z = (M 4 0 2) := ⟨_, rfl⟩
  rw [← ey5_1]
  replace hw := hw _ ey5_1
  refine gh_istore (L' := [some (vR 4 0), some (vI a0), some (vI a1), some (vI (nI 0)), some (vI (nI 0)), some (vI y5_1)]) dc_X4_readNumber_9 (by decide) rfl rfl ?_
  refine gh_drop (pc' := 0) [some (vR 4 0), some (vI a0), some (vI a1), some (vI (nI 0)), some (vI (nI 0)), some (vI y5_1)] ⟨rfl, rfl, rfl, rfl, rfl, rfl, trivial⟩ ?_
  obtain ⟨k, hw⟩ := hw
  exact lk_X4_readNumber_11  hE  k _ _ _ _ _ _ hw
theorem wk_X4_readLaw {t0 : Nat} (ht0 : t0 < 29) (Q : Int32 → gh_M → Prop)  (M : gh_M) (hw : wp_X4_readLaw t0  M Q) : gh_Calls 3 mi_X4_readLaw [vR 4 0, vR 6 t0] M (gh_Qi Q) := by
  refine gh_of (by decide) rfl 0 rfl (L0 := [some (vR 4 0), some (vR 6 t0)]) rfl (fun wd x hE => ?_)
  unfold wp_X4_readLaw at hw
  refine gh_aload_n dc_X4_readLaw_0 rfl ?_
  refine gh_bipush (v := (nI 103)) dc_X4_readLaw_1 gb_103 ?_
  refine gh_callVi (mi' := mi_X4_readSign) (as := [vI (nI 103)]) (S := []) (k := 4) (t := 0) dc_X4_readLaw_3 ml_RX4_37 ok_X4_readSign rfl rfl (by decide) (Nat.le_of_ble_eq_true rfl) (by decide) (by decide) rfl rfl (wk_X4_readSign _ _ _ hw) (fun r1 M2 hw => ?_)
  refine gh_if_ne (tgt := 11) dc_X4_readLaw_6 rfl (fun c3 => ?_) (fun c3 => ?_)
  · replace hw := hw.1 c3
    refine gh_aload_n dc_X4_readLaw_11 rfl ?_
    refine gh_aload_n dc_X4_readLaw_12 rfl ?_
    refine gh_iconst (v := (nI 4)) dc_X4_readLaw_13 gc_4 ?_
    refine gh_bipush (v := (nI 12)) dc_X4_readLaw_14 gb_12 ?_
    refine gh_callVi (mi' := mi_X4_readNumber) (as := [vI (nI 4), vI (nI 12)]) (S := [vR 6 t0]) (k := 4) (t := 0) dc_X4_readLaw_16 ml_RX4_41 ok_X4_readNumber rfl rfl (by decide) (Nat.le_of_ble_eq_true rfl) (by decide) (by decide) rfl rfl (wk_X4_readNumber _ _ _ _ hw) (fun r4 M5 hw => ?_)
    refine gh_put (k := 6) (t := t0) dc_X4_readLaw_19 fl_RX4_45 (by decide) ht0 rfl rfl (fun _ h => by cases h; rfl) rfl rfl ?_
    obtain ⟨M6, eM6⟩ : ∃ z, z = (gh_st M5 6 t0 0 r4) := ⟨_, rfl⟩
    rw [← eM6]
    replace hw := hw _ eM6
    refine gh_aload_n dc_X4_readLaw_22 rfl ?_
    refine gh_bipush (v := (nI 59)) dc_X4_readLaw_23 gb_59 ?_
    refine gh_callVi (mi' := mi_X4_readSign) (as := [vI (nI 59)]) (S := []) (k := 4) (t := 0) dc_X4_readLaw_25 ml_RX4_37 ok_X4_readSign rfl rfl (by decide) (Nat.le_of_ble_eq_true rfl) (by decide) (by decide) rfl rfl (wk_X4_readSign _ _ _ hw) (fun r7 M8 hw => ?_)
    exact gh_zret dc_X4_readLaw_28 hE rfl hw.1 hw.2
  · replace hw := hw.2 c3
    refine gh_iconst (v := (nI 0)) dc_X4_readLaw_9 gc_0 ?_
    exact gh_zret dc_X4_readLaw_10 hE rfl (by decide) hw
theorem wk_X4_kindOfLetter   (Q : Int32 → gh_M → Prop) (a0 : Int32) (M : gh_M) (hw : wp_X4_kindOfLetter  a0 M Q) : gh_Calls 1 mi_X4_kindOfLetter [vI a0] M (gh_Qi Q) := by
  refine gh_of (by decide) rfl 0 rfl (L0 := [some (vI a0)]) rfl (fun wd x hE => ?_)
  unfold wp_X4_kindOfLetter at hw
  refine gh_iload_n dc_X4_kindOfLetter_0 rfl ?_
  refine (Decidable.em (a0 = (nI 98))).elim (fun c1 => ?_) (fun c1 => ?_)
  · replace hw := hw.1 c1
    refine gh_lookup (tgt := 54) dc_X4_kindOfLetter_1 (by decide) (by rw [c1]; try rfl) rfl ?_
    refine gh_iconst (v := (nI 2)) dc_X4_kindOfLetter_54 gc_2 ?_
    exact gh_iret dc_X4_kindOfLetter_55 hE rfl hw
  · replace hw := hw.2 c1
    refine (Decidable.em (a0 = (nI 104))).elim (fun c2 => ?_) (fun c2 => ?_)
    · replace hw := hw.1 c2
      refine gh_lookup (tgt := 56) dc_X4_kindOfLetter_1 (by decide) (by rw [c2]; try rfl) rfl ?_
      refine gh_iconst (v := (nI 3)) dc_X4_kindOfLetter_56 gc_3 ?_
      exact gh_iret dc_X4_kindOfLetter_57 hE rfl hw
    · replace hw := hw.2 c2
      refine (Decidable.em (a0 = (nI 109))).elim (fun c3 => ?_) (fun c3 => ?_)
      · replace hw := hw.1 c3
        refine gh_lookup (tgt := 58) dc_X4_kindOfLetter_1 (by decide) (by rw [c3]; try rfl) rfl ?_
        refine gh_iconst (v := (nI 4)) dc_X4_kindOfLetter_58 gc_4 ?_
        exact gh_iret dc_X4_kindOfLetter_59 hE rfl hw
      · replace hw := hw.2 c3
        refine (Decidable.em (a0 = (nI 111))).elim (fun c4 => ?_) (fun c4 => ?_)
        · replace hw := hw.1 c4
          refine gh_lookup (tgt := 60) dc_X4_kindOfLetter_1 (by decide) (by rw [c4]; try rfl) rfl ?_
          refine gh_iconst (v := (nI 5)) dc_X4_kindOfLetter_60 gc_5 ?_
          exact gh_iret dc_X4_kindOfLetter_61 hE rfl hw
        · replace hw := hw.2 c4
          refine (Decidable.em (a0 = (nI 115))).elim (fun c5 => ?_) (fun c5 => ?_)
          · replace hw := hw.1 c5
            refine gh_lookup (tgt := 52) dc_X4_kindOfLetter_1 (by decide) (by rw [c5]; try rfl) rfl ?_
            refine gh_iconst (v := (nI 1)) dc_X4_kindOfLetter_52 gc_1 ?_
            exact gh_iret dc_X4_kindOfLetter_53 hE rfl hw
          · replace hw := hw.2 c5
            refine gh_lookup (tgt := 62) dc_X4_kindOfLetter_1 (by decide) ((lv_osw c1 (by decide)).trans ((lv_osw c2 (by decide)).trans ((lv_osw c3 (by decide)).trans ((lv_osw c4 (by decide)).trans ((lv_osw c5 (by decide)).trans (rfl)))))) rfl ?_
            refine gh_iconst (v := (-1 : Int32)) dc_X4_kindOfLetter_62 gc_m1 ?_
            exact gh_iret dc_X4_kindOfLetter_63 hE rfl hw
theorem wk_X5_addTrick {t0 : Nat} (ht0 : t0 < 29) (Q : gh_M → Prop) (a0 : Int32) (a1 : Int32) (a2 : Int32) (M : gh_M) (hw : wp_X5_addTrick t0 a0 a1 a2 M Q) : gh_Calls 1 mi_X5_addTrick [vR 6 t0, vI a0, vI a1, vI a2] M (gh_Qv Q) := by
  refine gh_of (by decide) rfl 0 rfl (L0 := [some (vR 6 t0), some (vI a0), some (vI a1), some (vI a2)]) rfl (fun wd x hE => ?_)
  unfold wp_X5_addTrick at hw
  refine gh_aload_n dc_X5_addTrick_0 rfl ?_
  refine gh_getI (k := 6) (t := t0) dc_X5_addTrick_1 fl_RX5_59 (by decide) ht0 rfl rfl ?_
  refine gh_iconst (v := (nI 5)) dc_X5_addTrick_4 gc_5 ?_
  refine gh_icmp_lt (tgt := 9) dc_X5_addTrick_5 rfl (fun c1 => ?_) (fun c1 => ?_)
  · replace hw := hw.1 c1
    refine gh_aload_n dc_X5_addTrick_9 rfl ?_
    refine gh_getR (k := 6) (t := t0) dc_X5_addTrick_10 fl_RX5_9 (by decide) ht0 rfl rfl ?_
    refine gh_aload_n dc_X5_addTrick_13 rfl ?_
    refine gh_getI (k := 6) (t := t0) dc_X5_addTrick_14 fl_RX5_59 (by decide) ht0 rfl rfl ?_
    refine gh_iload_n dc_X5_addTrick_17 rfl ?_
    obtain ⟨h2, hw⟩ := hw
    refine gh_iast (k := 7) (t := t0) dc_X5_addTrick_18 rfl (by decide) ht0 h2 ?_
    obtain ⟨M3, eM3⟩ : ∃ z, z = (gh_st M 7 t0 (M 6 t0 1).toNatClampNeg a0) := ⟨_, rfl⟩
    rw [← eM3]
    replace hw := hw _ eM3
    refine gh_aload_n dc_X5_addTrick_19 rfl ?_
    refine gh_getR (k := 6) (t := t0) dc_X5_addTrick_20 fl_RX5_15 (by decide) ht0 rfl rfl ?_
    refine gh_aload_n dc_X5_addTrick_23 rfl ?_
    refine gh_getI (k := 6) (t := t0) dc_X5_addTrick_24 fl_RX5_59 (by decide) ht0 rfl rfl ?_
    refine gh_iload_n dc_X5_addTrick_27 rfl ?_
    obtain ⟨h4, hw⟩ := hw
    refine gh_iast (k := 8) (t := t0) dc_X5_addTrick_28 rfl (by decide) ht0 h4 ?_
    obtain ⟨M5, eM5⟩ : ∃ z, z = (gh_st M3 8 t0 (M3 6 t0 1).toNatClampNeg a1) := ⟨_, rfl⟩
    rw [← eM5]
    replace hw := hw _ eM5
    refine gh_aload_n dc_X5_addTrick_29 rfl ?_
    refine gh_getR (k := 6) (t := t0) dc_X5_addTrick_30 fl_RX5_18 (by decide) ht0 rfl rfl ?_
    refine gh_aload_n dc_X5_addTrick_33 rfl ?_
    refine gh_getI (k := 6) (t := t0) dc_X5_addTrick_34 fl_RX5_59 (by decide) ht0 rfl rfl ?_
    refine gh_iload_n dc_X5_addTrick_37 rfl ?_
    obtain ⟨h6, hw⟩ := hw
    refine gh_iast (k := 9) (t := t0) dc_X5_addTrick_38 rfl (by decide) ht0 h6 ?_
    obtain ⟨M7, eM7⟩ : ∃ z, z = (gh_st M5 9 t0 (M5 6 t0 1).toNatClampNeg a2) := ⟨_, rfl⟩
    rw [← eM7]
    replace hw := hw _ eM7
    refine gh_aload_n dc_X5_addTrick_39 rfl ?_
    refine gh_getR (k := 6) (t := t0) dc_X5_addTrick_40 fl_RX5_21 (by decide) ht0 rfl rfl ?_
    refine gh_aload_n dc_X5_addTrick_43 rfl ?_
    refine gh_getI (k := 6) (t := t0) dc_X5_addTrick_44 fl_RX5_59 (by decide) ht0 rfl rfl ?_
    refine gh_iconst (v := (nI 1)) dc_X5_addTrick_47 gc_1 ?_
    obtain ⟨h8, hw⟩ := hw
    refine gh_zast (k := 10) (t := t0) dc_X5_addTrick_48 rfl (by decide) ht0 h8 ?_
    obtain ⟨M9, eM9⟩ : ∃ z, z = (gh_st M7 10 t0 (M7 6 t0 1).toNatClampNeg ((nI 1) &&& 1)) := ⟨_, rfl⟩
    rw [← eM9]
    replace hw := hw _ eM9
    refine gh_aload_n dc_X5_addTrick_49 rfl ?_
    refine gh_getR (k := 6) (t := t0) dc_X5_addTrick_50 fl_RX5_25 (by decide) ht0 rfl rfl ?_
    refine gh_aload_n dc_X5_addTrick_53 rfl ?_
    refine gh_getI (k := 6) (t := t0) dc_X5_addTrick_54 fl_RX5_59 (by decide) ht0 rfl rfl ?_
    refine gh_iconst (v := (nI 0)) dc_X5_addTrick_57 gc_0 ?_
    obtain ⟨h10, hw⟩ := hw
    refine gh_iast (k := 11) (t := t0) dc_X5_addTrick_58 rfl (by decide) ht0 h10 ?_
    obtain ⟨M11, eM11⟩ : ∃ z, z = (gh_st M9 11 t0 (M9 6 t0 1).toNatClampNeg (nI 0)) := ⟨_, rfl⟩
    rw [← eM11]
    replace hw := hw _ eM11
    refine gh_aload_n dc_X5_addTrick_59 rfl ?_
    refine gh_dupR dc_X5_addTrick_60 ?_
    refine gh_getI (k := 6) (t := t0) dc_X5_addTrick_61 fl_RX5_59 (by decide) ht0 rfl rfl ?_
    refine gh_iconst (v := (nI 1)) dc_X5_addTrick_64 gc_1 ?_
    refine gh_iadd dc_X5_addTrick_65 ?_
    refine gh_put (k := 6) (t := t0) dc_X5_addTrick_66 fl_RX5_59 (by decide) ht0 rfl rfl (fun _ h => by cases h; rfl) rfl rfl ?_
    obtain ⟨M12, eM12⟩ : ∃ z, z = (gh_st M11 6 t0 1 ((M11 6 t0 1) + (nI 1))) := ⟨_, rfl⟩
    rw [← eM12]
    replace hw := hw _ eM12
    exact gh_vret dc_X5_addTrick_69 hE rfl hw
  · replace hw := hw.2 c1
    exact gh_vret dc_X5_addTrick_8 hE rfl hw
theorem lk_X4_readTricks_2 {wd : gh_Wd} {x : gh_X} {Q : Int32 → gh_M → Prop} {t0 : Nat} (ht0 : t0 < 29) (hE : gh_E wd (gh_Qi Q) x)   : ∀ (n : Nat) (x2 : Int32) (M : gh_M), wl_X4_readTricks_2 t0 Q n x2 M → gh_J mi_X4_readTricks 3 wd x M 2 [some (vR 4 0), some (vR 6 t0), some (vI x2), none, none, none] [] := by
  intro n
  induction n with
  | zero => intro x2 M hw; exact hw.elim
  | succ n ih =>
    intro x2 M hw
    unfold wl_X4_readTricks_2 at hw
    refine gh_iload_n dc_X4_readTricks_2 rfl ?_
    refine gh_iconst (v := (nI 5)) dc_X4_readTricks_3 gc_5 ?_
    refine gh_icmp_gt (tgt := 114) dc_X4_readTricks_4 rfl (fun c1 => ?_) (fun c1 => ?_)
    · replace hw := hw.1 c1
      refine gh_iconst (v := (nI 1)) dc_X4_readTricks_114 gc_1 ?_
      exact gh_zret dc_X4_readTricks_115 hE rfl (by decide) hw
    · replace hw := hw.2 c1
      refine gh_aload_n dc_X4_readTricks_7 rfl ?_
      refine gh_callVi (mi' := mi_X4_next) (as := []) (S := []) (k := 4) (t := 0) dc_X4_readTricks_8 ml_RX4_48 ok_X4_next rfl rfl (by decide) (Nat.le_of_ble_eq_true rfl) (by decide) (by decide) rfl rfl (wk_X4_next _ _ hw) (fun r2 M3 hw => ?_)
      refine gh_callSi (mi' := mi_X4_kindOfLetter) (as := [vI r2]) (S := []) dc_X4_readTricks_11 ml_RX4_52 ok_X4_kindOfLetter rfl rfl (by decide) (Nat.le_of_ble_eq_true rfl) (wk_X4_kindOfLetter _ _ _ hw) (fun r4 M5 hw => ?_)
      refine gh_istore_n (L' := [some (vR 4 0), some (vR 6 t0), some (vI x2), some (vI r4), none, none]) dc_X4_readTricks_14 (by decide) rfl rfl ?_
      refine gh_iload_n dc_X4_readTricks_15 rfl ?_
      refine gh_iconst (v := (-1 : Int32)) dc_X4_readTricks_16 gc_m1 ?_
      refine gh_icmp_ne (tgt := 38) dc_X4_readTricks_17 rfl (fun c6 => ?_) (fun c6 => ?_)
      · replace hw := hw.1 c6
        refine gh_iload_n dc_X4_readTricks_38 rfl ?_
        refine gh_iconst (v := (nI 5)) dc_X4_readTricks_39 gc_5 ?_
        refine gh_icmp_ne (tgt := 49) dc_X4_readTricks_40 rfl (fun c7 => ?_) (fun c7 => ?_)
        · replace hw := hw.1 c7
          refine gh_aload_n dc_X4_readTricks_49 rfl ?_
          refine gh_dupR dc_X4_readTricks_50 ?_
          refine gh_getI (k := 4) (t := 0) dc_X4_readTricks_51 fl_RX4_15 (by decide) (by decide) rfl rfl ?_
          refine gh_iconst (v := (nI 1)) dc_X4_readTricks_54 gc_1 ?_
          refine gh_iadd dc_X4_readTricks_55 ?_
          refine gh_put (k := 4) (t := 0) dc_X4_readTricks_56 fl_RX4_15 (by decide) (by decide) rfl rfl (fun _ h => by cases h; rfl) rfl rfl ?_
          obtain ⟨M8, eM8⟩ : ∃ z, z = (gh_st M5 4 0 2 ((M5 4 0 2) + (nI 1))) := ⟨_, rfl⟩
          rw [← eM8]
          replace hw := hw _ eM8
          refine gh_aload_n dc_X4_readTricks_59 rfl ?_
          refine gh_iconst (v := (nI 0)) dc_X4_readTricks_60 gc_0 ?_
          refine gh_aload_n dc_X4_readTricks_61 rfl ?_
          refine gh_getI (k := 6) (t := t0) dc_X4_readTricks_62 fl_RX4_45 (by decide) ht0 rfl rfl ?_
          refine gh_iconst (v := (nI 1)) dc_X4_readTricks_65 gc_1 ?_
          refine gh_isub dc_X4_readTricks_66 ?_
          refine gh_callVi (mi' := mi_X4_readNumber) (as := [vI (nI 0), vI ((M8 6 t0 0) - (nI 1))]) (S := []) (k := 4) (t := 0) dc_X4_readTricks_67 ml_RX4_41 ok_X4_readNumber rfl rfl (by decide) (Nat.le_of_ble_eq_true rfl) (by decide) (by decide) rfl rfl (wk_X4_readNumber _ _ _ _ hw) (fun r9 M10 hw => ?_)
          refine gh_istore (L' := [some (vR 4 0), some (vR 6 t0), some (vI x2), some (vI r4), some (vI r9), none]) dc_X4_readTricks_70 (by decide) rfl rfl ?_
          refine gh_aload_n dc_X4_readTricks_72 rfl ?_
          refine gh_bipush (v := (nI 44)) dc_X4_readTricks_73 gb_44 ?_
          refine gh_callVi (mi' := mi_X4_readSign) (as := [vI (nI 44)]) (S := []) (k := 4) (t := 0) dc_X4_readTricks_75 ml_RX4_37 ok_X4_readSign rfl rfl (by decide) (Nat.le_of_ble_eq_true rfl) (by decide) (by decide) rfl rfl (wk_X4_readSign _ _ _ hw) (fun r11 M12 hw => ?_)
          refine gh_popI dc_X4_readTricks_78 ?_
          refine gh_aload_n dc_X4_readTricks_79 rfl ?_
          refine gh_iconst (v := (nI 1)) dc_X4_readTricks_80 gc_1 ?_
          refine gh_bipush (v := (nI 9)) dc_X4_readTricks_81 gb_9 ?_
          refine gh_callVi (mi' := mi_X4_readNumber) (as := [vI (nI 1), vI (nI 9)]) (S := []) (k := 4) (t := 0) dc_X4_readTricks_83 ml_RX4_41 ok_X4_readNumber rfl rfl (by decide) (Nat.le_of_ble_eq_true rfl) (by decide) (by decide) rfl rfl (wk_X4_readNumber _ _ _ _ hw) (fun r13 M14 hw => ?_)
          refine gh_istore (L' := [some (vR 4 0), some (vR 6 t0), some (vI x2), some (vI r4), some (vI r9), some (vI r13)]) dc_X4_readTricks_86 (by decide) rfl rfl ?_
          refine gh_aload_n dc_X4_readTricks_88 rfl ?_
          refine gh_bipush (v := (nI 59)) dc_X4_readTricks_89 gb_59 ?_
          refine gh_callVi (mi' := mi_X4_readSign) (as := [vI (nI 59)]) (S := []) (k := 4) (t := 0) dc_X4_readTricks_91 ml_RX4_37 ok_X4_readSign rfl rfl (by decide) (Nat.le_of_ble_eq_true rfl) (by decide) (by decide) rfl rfl (wk_X4_readSign _ _ _ hw) (fun r15 M16 hw => ?_)
          refine gh_if_ne (tgt := 99) dc_X4_readTricks_94 rfl (fun c17 => ?_) (fun c17 => ?_)
          · replace hw := hw.1 c17
            refine gh_aload_n dc_X4_readTricks_99 rfl ?_
            refine gh_iload_n dc_X4_readTricks_100 rfl ?_
            refine gh_iload dc_X4_readTricks_101 rfl ?_
            refine gh_iload dc_X4_readTricks_103 rfl ?_
            refine gh_callVv (mi' := mi_X5_addTrick) (as := [vI r4, vI r9, vI r13]) (S := []) (k := 6) (t := t0) dc_X4_readTricks_105 ml_RX4_59 ok_X5_addTrick rfl rfl (by decide) (Nat.le_of_ble_eq_true rfl) (by decide) ht0 rfl rfl (wk_X5_addTrick ht0 _ _ _ _ _ hw) (fun M19 hw => ?_)
            obtain ⟨y2_20, ey2_20⟩ : ∃ z, z = (x2 + (nI 1)) := ⟨_, rfl⟩
            replace hw := hw _ ey2_20
            refine gh_iinc (v := y2_20) (L' := [some (vR 4 0), some (vR 6 t0), some (vI y2_20), some (vI r4), some (vI r9), some (vI r13)]) dc_X4_readTricks_108 rfl ((congrArg (fun z => x2 + z) gc_1).trans ey2_20.symm) (by decide) rfl rfl ?_
            refine gh_goto (tgt := 2) dc_X4_readTricks_111 rfl ?_
            refine gh_drop (pc' := 0) [some (vR 4 0), some (vR 6 t0), some (vI y2_20), none, none, none] ⟨rfl, rfl, rfl, trivial⟩ ?_
            exact ih _ _ hw
          · replace hw := hw.2 c17
            refine gh_iconst (v := (nI 0)) dc_X4_readTricks_97 gc_0 ?_
            exact gh_zret dc_X4_readTricks_98 hE rfl (by decide) hw
        · replace hw := hw.2 c7
          refine gh_aload_n dc_X4_readTricks_43 rfl ?_
          refine gh_iconst (v := (nI 3)) dc_X4_readTricks_44 gc_3 ?_
          refine gh_callVi (mi' := mi_X4_faulty) (as := [vI (nI 3)]) (S := []) (k := 4) (t := 0) dc_X4_readTricks_45 ml_RX4_56 ok_X4_faulty rfl rfl (by decide) (Nat.le_of_ble_eq_true rfl) (by decide) (by decide) rfl rfl (wk_X4_faulty _ _ _ hw) (fun r21 M22 hw => ?_)
          exact gh_zret dc_X4_readTricks_48 hE rfl hw.1 hw.2
      · replace hw := hw.2 c6
        refine gh_iload_n dc_X4_readTricks_20 rfl ?_
        refine gh_if_gt (tgt := 32) dc_X4_readTricks_21 rfl (fun c23 => ?_) (fun c23 => ?_)
        · replace hw := hw.1 c23
          refine gh_iconst (v := (nI 1)) dc_X4_readTricks_32 gc_1 ?_
          refine gh_goto (tgt := 37) dc_X4_readTricks_33 rfl ?_
          exact gh_zret dc_X4_readTricks_37 hE rfl (by decide) hw
        · replace hw := hw.2 c23
          refine gh_aload_n dc_X4_readTricks_24 rfl ?_
          refine gh_iconst (v := (nI 1)) dc_X4_readTricks_25 gc_1 ?_
          refine gh_callVi (mi' := mi_X4_faulty) (as := [vI (nI 1)]) (S := []) (k := 4) (t := 0) dc_X4_readTricks_26 ml_RX4_56 ok_X4_faulty rfl rfl (by decide) (Nat.le_of_ble_eq_true rfl) (by decide) (by decide) rfl rfl (wk_X4_faulty _ _ _ hw) (fun r24 M25 hw => ?_)
          refine gh_if_eq (tgt := 36) dc_X4_readTricks_29 rfl (fun c26 => ?_) (fun c26 => ?_)
          · replace hw := hw.1 c26
            refine gh_iconst (v := (nI 0)) dc_X4_readTricks_36 gc_0 ?_
            exact gh_zret dc_X4_readTricks_37 hE rfl (by decide) hw
          · replace hw := hw.2 c26
            refine gh_iconst (v := (nI 1)) dc_X4_readTricks_32 gc_1 ?_
            refine gh_goto (tgt := 37) dc_X4_readTricks_33 rfl ?_
            exact gh_zret dc_X4_readTricks_37 hE rfl (by decide) hw
theorem wk_X4_readTricks {t0 : Nat} (ht0 : t0 < 29) (Q : Int32 → gh_M → Prop)  (M : gh_M) (hw : wp_X4_readTricks t0  M Q) : gh_Calls 3 mi_X4_readTricks [vR 4 0, vR 6 t0] M (gh_Qi Q) := by
  refine gh_of (by decide) rfl 4 rfl (L0 := [some (vR 4 0), some (vR 6 t0), none, none, none, none]) rfl (fun wd x hE => ?_)
  unfold wp_X4_readTricks at hw
  refine gh_iconst (v := (nI 0)) dc_X4_readTricks_0 gc_0 ?_
  refine gh_istore_n (L' := [some (vR 4 0), some (vR 6 t0), some (vI (nI 0)), none, none, none]) dc_X4_readTricks_1 (by decide) rfl rfl ?_
  refine gh_drop (pc' := 0) [some (vR 4 0), some (vR 6 t0), some (vI (nI 0)), none, none, none] ⟨rfl, rfl, rfl, trivial⟩ ?_
  obtain ⟨k, hw⟩ := hw
  exact lk_X4_readTricks_2 ht0 hE  k _ _ hw
theorem wk_X5_addCar {t0 : Nat} (ht0 : t0 < 29) (Q : gh_M → Prop) (a0 : Int32) (a1 : Int32) (a2 : Int32) (M : gh_M) (hw : wp_X5_addCar t0 a0 a1 a2 M Q) : gh_Calls 1 mi_X5_addCar [vR 6 t0, vI a0, vI a1, vI a2] M (gh_Qv Q) := by
  refine gh_of (by decide) rfl 0 rfl (L0 := [some (vR 6 t0), some (vI a0), some (vI a1), some (vI a2)]) rfl (fun wd x hE => ?_)
  unfold wp_X5_addCar at hw
  refine gh_aload_n dc_X5_addCar_0 rfl ?_
  refine gh_getI (k := 6) (t := t0) dc_X5_addCar_1 fl_RX5_62 (by decide) ht0 rfl rfl ?_
  refine gh_bipush (v := (nI 6)) dc_X5_addCar_4 gb_6 ?_
  refine gh_icmp_lt (tgt := 10) dc_X5_addCar_6 rfl (fun c1 => ?_) (fun c1 => ?_)
  · replace hw := hw.1 c1
    refine gh_aload_n dc_X5_addCar_10 rfl ?_
    refine gh_getR (k := 6) (t := t0) dc_X5_addCar_11 fl_RX5_28 (by decide) ht0 rfl rfl ?_
    refine gh_aload_n dc_X5_addCar_14 rfl ?_
    refine gh_getI (k := 6) (t := t0) dc_X5_addCar_15 fl_RX5_62 (by decide) ht0 rfl rfl ?_
    refine gh_iload_n dc_X5_addCar_18 rfl ?_
    obtain ⟨h2, hw⟩ := hw
    refine gh_iast (k := 12) (t := t0) dc_X5_addCar_19 rfl (by decide) ht0 h2 ?_
    obtain ⟨M3, eM3⟩ : ∃ z, z = (gh_st M 12 t0 (M 6 t0 2).toNatClampNeg a0) := ⟨_, rfl⟩
    rw [← eM3]
    replace hw := hw _ eM3
    refine gh_aload_n dc_X5_addCar_20 rfl ?_
    refine gh_getR (k := 6) (t := t0) dc_X5_addCar_21 fl_RX5_31 (by decide) ht0 rfl rfl ?_
    refine gh_aload_n dc_X5_addCar_24 rfl ?_
    refine gh_getI (k := 6) (t := t0) dc_X5_addCar_25 fl_RX5_62 (by decide) ht0 rfl rfl ?_
    refine gh_iload_n dc_X5_addCar_28 rfl ?_
    obtain ⟨h4, hw⟩ := hw
    refine gh_iast (k := 13) (t := t0) dc_X5_addCar_29 rfl (by decide) ht0 h4 ?_
    obtain ⟨M5, eM5⟩ : ∃ z, z = (gh_st M3 13 t0 (M3 6 t0 2).toNatClampNeg a1) := ⟨_, rfl⟩
    rw [← eM5]
    replace hw := hw _ eM5
    refine gh_aload_n dc_X5_addCar_30 rfl ?_
    refine gh_getR (k := 6) (t := t0) dc_X5_addCar_31 fl_RX5_34 (by decide) ht0 rfl rfl ?_
    refine gh_aload_n dc_X5_addCar_34 rfl ?_
    refine gh_getI (k := 6) (t := t0) dc_X5_addCar_35 fl_RX5_62 (by decide) ht0 rfl rfl ?_
    refine gh_iload_n dc_X5_addCar_38 rfl ?_
    obtain ⟨h6, hw⟩ := hw
    refine gh_iast (k := 14) (t := t0) dc_X5_addCar_39 rfl (by decide) ht0 h6 ?_
    obtain ⟨M7, eM7⟩ : ∃ z, z = (gh_st M5 14 t0 (M5 6 t0 2).toNatClampNeg a2) := ⟨_, rfl⟩
    rw [← eM7]
    replace hw := hw _ eM7
    refine gh_aload_n dc_X5_addCar_40 rfl ?_
    refine gh_getR (k := 6) (t := t0) dc_X5_addCar_41 fl_RX5_37 (by decide) ht0 rfl rfl ?_
    refine gh_aload_n dc_X5_addCar_44 rfl ?_
    refine gh_getI (k := 6) (t := t0) dc_X5_addCar_45 fl_RX5_62 (by decide) ht0 rfl rfl ?_
    refine gh_bipush (v := (nI 20)) dc_X5_addCar_48 gb_20 ?_
    obtain ⟨h8, hw⟩ := hw
    refine gh_iast (k := 15) (t := t0) dc_X5_addCar_50 rfl (by decide) ht0 h8 ?_
    obtain ⟨M9, eM9⟩ : ∃ z, z = (gh_st M7 15 t0 (M7 6 t0 2).toNatClampNeg (nI 20)) := ⟨_, rfl⟩
    rw [← eM9]
    replace hw := hw _ eM9
    refine gh_aload_n dc_X5_addCar_51 rfl ?_
    refine gh_getR (k := 6) (t := t0) dc_X5_addCar_52 fl_RX5_40 (by decide) ht0 rfl rfl ?_
    refine gh_aload_n dc_X5_addCar_55 rfl ?_
    refine gh_getI (k := 6) (t := t0) dc_X5_addCar_56 fl_RX5_62 (by decide) ht0 rfl rfl ?_
    refine gh_iconst (v := (nI 0)) dc_X5_addCar_59 gc_0 ?_
    obtain ⟨h10, hw⟩ := hw
    refine gh_iast (k := 16) (t := t0) dc_X5_addCar_60 rfl (by decide) ht0 h10 ?_
    obtain ⟨M11, eM11⟩ : ∃ z, z = (gh_st M9 16 t0 (M9 6 t0 2).toNatClampNeg (nI 0)) := ⟨_, rfl⟩
    rw [← eM11]
    replace hw := hw _ eM11
    refine gh_aload_n dc_X5_addCar_61 rfl ?_
    refine gh_getR (k := 6) (t := t0) dc_X5_addCar_62 fl_RX5_43 (by decide) ht0 rfl rfl ?_
    refine gh_aload_n dc_X5_addCar_65 rfl ?_
    refine gh_getI (k := 6) (t := t0) dc_X5_addCar_66 fl_RX5_62 (by decide) ht0 rfl rfl ?_
    refine gh_iconst (v := (nI 0)) dc_X5_addCar_69 gc_0 ?_
    obtain ⟨h12, hw⟩ := hw
    refine gh_iast (k := 17) (t := t0) dc_X5_addCar_70 rfl (by decide) ht0 h12 ?_
    obtain ⟨M13, eM13⟩ : ∃ z, z = (gh_st M11 17 t0 (M11 6 t0 2).toNatClampNeg (nI 0)) := ⟨_, rfl⟩
    rw [← eM13]
    replace hw := hw _ eM13
    refine gh_aload_n dc_X5_addCar_71 rfl ?_
    refine gh_getR (k := 6) (t := t0) dc_X5_addCar_72 fl_RX5_46 (by decide) ht0 rfl rfl ?_
    refine gh_aload_n dc_X5_addCar_75 rfl ?_
    refine gh_getI (k := 6) (t := t0) dc_X5_addCar_76 fl_RX5_62 (by decide) ht0 rfl rfl ?_
    refine gh_iconst (v := (nI 0)) dc_X5_addCar_79 gc_0 ?_
    obtain ⟨h14, hw⟩ := hw
    refine gh_zast (k := 18) (t := t0) dc_X5_addCar_80 rfl (by decide) ht0 h14 ?_
    obtain ⟨M15, eM15⟩ : ∃ z, z = (gh_st M13 18 t0 (M13 6 t0 2).toNatClampNeg ((nI 0) &&& 1)) := ⟨_, rfl⟩
    rw [← eM15]
    replace hw := hw _ eM15
    refine gh_aload_n dc_X5_addCar_81 rfl ?_
    refine gh_getR (k := 6) (t := t0) dc_X5_addCar_82 fl_RX5_49 (by decide) ht0 rfl rfl ?_
    refine gh_aload_n dc_X5_addCar_85 rfl ?_
    refine gh_getI (k := 6) (t := t0) dc_X5_addCar_86 fl_RX5_62 (by decide) ht0 rfl rfl ?_
    refine gh_aload_n dc_X5_addCar_89 rfl ?_
    refine gh_getI (k := 6) (t := t0) dc_X5_addCar_90 fl_RX5_62 (by decide) ht0 rfl rfl ?_
    obtain ⟨h16, hw⟩ := hw
    refine gh_iast (k := 19) (t := t0) dc_X5_addCar_93 rfl (by decide) ht0 h16 ?_
    obtain ⟨M17, eM17⟩ : ∃ z, z = (gh_st M15 19 t0 (M15 6 t0 2).toNatClampNeg (M15 6 t0 2)) := ⟨_, rfl⟩
    rw [← eM17]
    replace hw := hw _ eM17
    refine gh_aload_n dc_X5_addCar_94 rfl ?_
    refine gh_dupR dc_X5_addCar_95 ?_
    refine gh_getI (k := 6) (t := t0) dc_X5_addCar_96 fl_RX5_62 (by decide) ht0 rfl rfl ?_
    refine gh_iconst (v := (nI 1)) dc_X5_addCar_99 gc_1 ?_
    refine gh_iadd dc_X5_addCar_100 ?_
    refine gh_put (k := 6) (t := t0) dc_X5_addCar_101 fl_RX5_62 (by decide) ht0 rfl rfl (fun _ h => by cases h; rfl) rfl rfl ?_
    obtain ⟨M18, eM18⟩ : ∃ z, z = (gh_st M17 6 t0 2 ((M17 6 t0 2) + (nI 1))) := ⟨_, rfl⟩
    rw [← eM18]
    replace hw := hw _ eM18
    exact gh_vret dc_X5_addCar_104 hE rfl hw
  · replace hw := hw.2 c1
    exact gh_vret dc_X5_addCar_9 hE rfl hw
theorem lk_X4_readCars_2 {wd : gh_Wd} {x : gh_X} {Q : Int32 → gh_M → Prop} {t0 : Nat} (ht0 : t0 < 29) (hE : gh_E wd (gh_Qi Q) x)   : ∀ (n : Nat) (x2 : Int32) (M : gh_M), wl_X4_readCars_2 t0 Q n x2 M → gh_J mi_X4_readCars 3 wd x M 2 [some (vR 4 0), some (vR 6 t0), some (vI x2), none, none, none] [] := by
  intro n
  induction n with
  | zero => intro x2 M hw; exact hw.elim
  | succ n ih =>
    intro x2 M hw
    unfold wl_X4_readCars_2 at hw
    refine gh_iload_n dc_X4_readCars_2 rfl ?_
    refine gh_bipush (v := (nI 6)) dc_X4_readCars_3 gb_6 ?_
    refine gh_icmp_gt (tgt := 126) dc_X4_readCars_5 rfl (fun c1 => ?_) (fun c1 => ?_)
    · replace hw := hw.1 c1
      refine gh_iconst (v := (nI 1)) dc_X4_readCars_126 gc_1 ?_
      exact gh_zret dc_X4_readCars_127 hE rfl (by decide) hw
    · replace hw := hw.2 c1
      refine gh_iload_n dc_X4_readCars_8 rfl ?_
      refine gh_if_le (tgt := 25) dc_X4_readCars_9 rfl (fun c2 => ?_) (fun c2 => ?_)
      · replace hw := hw.1 c2
        refine gh_aload_n dc_X4_readCars_25 rfl ?_
        refine gh_callVi (mi' := mi_X4_next) (as := []) (S := []) (k := 4) (t := 0) dc_X4_readCars_26 ml_RX4_48 ok_X4_next rfl rfl (by decide) (Nat.le_of_ble_eq_true rfl) (by decide) (by decide) rfl rfl (wk_X4_next _ _ hw) (fun r3 M4 hw => ?_)
        refine gh_bipush (v := (nI 99)) dc_X4_readCars_29 gb_99 ?_
        refine gh_icmp_eq (tgt := 40) dc_X4_readCars_31 rfl (fun c5 => ?_) (fun c5 => ?_)
        · replace hw := hw.1 c5
          refine gh_iload_n dc_X4_readCars_40 rfl ?_
          refine gh_bipush (v := (nI 6)) dc_X4_readCars_41 gb_6 ?_
          refine gh_icmp_ne (tgt := 52) dc_X4_readCars_43 rfl (fun c6 => ?_) (fun c6 => ?_)
          · replace hw := hw.1 c6
            refine gh_aload_n dc_X4_readCars_52 rfl ?_
            refine gh_dupR dc_X4_readCars_53 ?_
            refine gh_getI (k := 4) (t := 0) dc_X4_readCars_54 fl_RX4_15 (by decide) (by decide) rfl rfl ?_
            refine gh_iconst (v := (nI 1)) dc_X4_readCars_57 gc_1 ?_
            refine gh_iadd dc_X4_readCars_58 ?_
            refine gh_put (k := 4) (t := 0) dc_X4_readCars_59 fl_RX4_15 (by decide) (by decide) rfl rfl (fun _ h => by cases h; rfl) rfl rfl ?_
            obtain ⟨M7, eM7⟩ : ∃ z, z = (gh_st M4 4 0 2 ((M4 4 0 2) + (nI 1))) := ⟨_, rfl⟩
            rw [← eM7]
            replace hw := hw _ eM7
            refine gh_aload_n dc_X4_readCars_62 rfl ?_
            refine gh_iconst (v := (nI 1)) dc_X4_readCars_63 gc_1 ?_
            refine gh_iconst (v := (nI 4)) dc_X4_readCars_64 gc_4 ?_
            refine gh_callVi (mi' := mi_X4_readNumber) (as := [vI (nI 1), vI (nI 4)]) (S := []) (k := 4) (t := 0) dc_X4_readCars_65 ml_RX4_41 ok_X4_readNumber rfl rfl (by decide) (Nat.le_of_ble_eq_true rfl) (by decide) (by decide) rfl rfl (wk_X4_readNumber _ _ _ _ hw) (fun r8 M9 hw => ?_)
            refine gh_istore_n (L' := [some (vR 4 0), some (vR 6 t0), some (vI x2), some (vI r8), none, none]) dc_X4_readCars_68 (by decide) rfl rfl ?_
            refine gh_aload_n dc_X4_readCars_69 rfl ?_
            refine gh_bipush (v := (nI 44)) dc_X4_readCars_70 gb_44 ?_
            refine gh_callVi (mi' := mi_X4_readSign) (as := [vI (nI 44)]) (S := []) (k := 4) (t := 0) dc_X4_readCars_72 ml_RX4_37 ok_X4_readSign rfl rfl (by decide) (Nat.le_of_ble_eq_true rfl) (by decide) (by decide) rfl rfl (wk_X4_readSign _ _ _ hw) (fun r10 M11 hw => ?_)
            refine gh_popI dc_X4_readCars_75 ?_
            refine gh_aload_n dc_X4_readCars_76 rfl ?_
            refine gh_iconst (v := (nI 1)) dc_X4_readCars_77 gc_1 ?_
            refine gh_bipush (v := (nI 60)) dc_X4_readCars_78 gb_60 ?_
            refine gh_callVi (mi' := mi_X4_readNumber) (as := [vI (nI 1), vI (nI 60)]) (S := []) (k := 4) (t := 0) dc_X4_readCars_80 ml_RX4_41 ok_X4_readNumber rfl rfl (by decide) (Nat.le_of_ble_eq_true rfl) (by decide) (by decide) rfl rfl (wk_X4_readNumber _ _ _ _ hw) (fun r12 M13 hw => ?_)
            refine gh_istore (L' := [some (vR 4 0), some (vR 6 t0), some (vI x2), some (vI r8), some (vI r12), none]) dc_X4_readCars_83 (by decide) rfl rfl ?_
            refine gh_aload_n dc_X4_readCars_85 rfl ?_
            refine gh_bipush (v := (nI 44)) dc_X4_readCars_86 gb_44 ?_
            refine gh_callVi (mi' := mi_X4_readSign) (as := [vI (nI 44)]) (S := []) (k := 4) (t := 0) dc_X4_readCars_88 ml_RX4_37 ok_X4_readSign rfl rfl (by decide) (Nat.le_of_ble_eq_true rfl) (by decide) (by decide) rfl rfl (wk_X4_readSign _ _ _ hw) (fun r14 M15 hw => ?_)
            refine gh_popI dc_X4_readCars_91 ?_
            refine gh_aload_n dc_X4_readCars_92 rfl ?_
            refine gh_iconst (v := (nI 1)) dc_X4_readCars_93 gc_1 ?_
            refine gh_iconst (v := (nI 3)) dc_X4_readCars_94 gc_3 ?_
            refine gh_callVi (mi' := mi_X4_readNumber) (as := [vI (nI 1), vI (nI 3)]) (S := []) (k := 4) (t := 0) dc_X4_readCars_95 ml_RX4_41 ok_X4_readNumber rfl rfl (by decide) (Nat.le_of_ble_eq_true rfl) (by decide) (by decide) rfl rfl (wk_X4_readNumber _ _ _ _ hw) (fun r16 M17 hw => ?_)
            refine gh_istore (L' := [some (vR 4 0), some (vR 6 t0), some (vI x2), some (vI r8), some (vI r12), some (vI r16)]) dc_X4_readCars_98 (by decide) rfl rfl ?_
            refine gh_aload_n dc_X4_readCars_100 rfl ?_
            refine gh_bipush (v := (nI 59)) dc_X4_readCars_101 gb_59 ?_
            refine gh_callVi (mi' := mi_X4_readSign) (as := [vI (nI 59)]) (S := []) (k := 4) (t := 0) dc_X4_readCars_103 ml_RX4_37 ok_X4_readSign rfl rfl (by decide) (Nat.le_of_ble_eq_true rfl) (by decide) (by decide) rfl rfl (wk_X4_readSign _ _ _ hw) (fun r18 M19 hw => ?_)
            refine gh_if_ne (tgt := 111) dc_X4_readCars_106 rfl (fun c20 => ?_) (fun c20 => ?_)
            · replace hw := hw.1 c20
              refine gh_aload_n dc_X4_readCars_111 rfl ?_
              refine gh_iload_n dc_X4_readCars_112 rfl ?_
              refine gh_iload dc_X4_readCars_113 rfl ?_
              refine gh_iload dc_X4_readCars_115 rfl ?_
              refine gh_callVv (mi' := mi_X5_addCar) (as := [vI r8, vI r12, vI r16]) (S := []) (k := 6) (t := t0) dc_X4_readCars_117 ml_RX4_66 ok_X5_addCar rfl rfl (by decide) (Nat.le_of_ble_eq_true rfl) (by decide) ht0 rfl rfl (wk_X5_addCar ht0 _ _ _ _ _ hw) (fun M22 hw => ?_)
              obtain ⟨y2_23, ey2_23⟩ : ∃ z, z = (x2 + (nI 1)) := ⟨_, rfl⟩
              replace hw := hw _ ey2_23
              refine gh_iinc (v := y2_23) (L' := [some (vR 4 0), some (vR 6 t0), some (vI y2_23), some (vI r8), some (vI r12), some (vI r16)]) dc_X4_readCars_120 rfl ((congrArg (fun z => x2 + z) gc_1).trans ey2_23.symm) (by decide) rfl rfl ?_
              refine gh_goto (tgt := 2) dc_X4_readCars_123 rfl ?_
              refine gh_drop (pc' := 0) [some (vR 4 0), some (vR 6 t0), some (vI y2_23), none, none, none] ⟨rfl, rfl, rfl, trivial⟩ ?_
              exact ih _ _ hw
            · replace hw := hw.2 c20
              refine gh_iconst (v := (nI 0)) dc_X4_readCars_109 gc_0 ?_
              exact gh_zret dc_X4_readCars_110 hE rfl (by decide) hw
          · replace hw := hw.2 c6
            refine gh_aload_n dc_X4_readCars_46 rfl ?_
            refine gh_iconst (v := (nI 3)) dc_X4_readCars_47 gc_3 ?_
            refine gh_callVi (mi' := mi_X4_faulty) (as := [vI (nI 3)]) (S := []) (k := 4) (t := 0) dc_X4_readCars_48 ml_RX4_56 ok_X4_faulty rfl rfl (by decide) (Nat.le_of_ble_eq_true rfl) (by decide) (by decide) rfl rfl (wk_X4_faulty _ _ _ hw) (fun r24 M25 hw => ?_)
            exact gh_zret dc_X4_readCars_51 hE rfl hw.1 hw.2
        · replace hw := hw.2 c5
          refine gh_aload_n dc_X4_readCars_34 rfl ?_
          refine gh_iconst (v := (nI 1)) dc_X4_readCars_35 gc_1 ?_
          refine gh_callVi (mi' := mi_X4_faulty) (as := [vI (nI 1)]) (S := []) (k := 4) (t := 0) dc_X4_readCars_36 ml_RX4_56 ok_X4_faulty rfl rfl (by decide) (Nat.le_of_ble_eq_true rfl) (by decide) (by decide) rfl rfl (wk_X4_faulty _ _ _ hw) (fun r26 M27 hw => ?_)
          exact gh_zret dc_X4_readCars_39 hE rfl hw.1 hw.2
      · replace hw := hw.2 c2
        refine gh_aload_n dc_X4_readCars_12 rfl ?_
        refine gh_getI (k := 4) (t := 0) dc_X4_readCars_13 fl_RX4_15 (by decide) (by decide) rfl rfl ?_
        refine gh_aload_n dc_X4_readCars_16 rfl ?_
        refine gh_getI (k := 4) (t := 0) dc_X4_readCars_17 fl_RX4_63 (by decide) (by decide) rfl rfl ?_
        refine gh_icmp_lt (tgt := 25) dc_X4_readCars_20 rfl (fun c28 => ?_) (fun c28 => ?_)
        · replace hw := hw.1 c28
          refine gh_aload_n dc_X4_readCars_25 rfl ?_
          refine gh_callVi (mi' := mi_X4_next) (as := []) (S := []) (k := 4) (t := 0) dc_X4_readCars_26 ml_RX4_48 ok_X4_next rfl rfl (by decide) (Nat.le_of_ble_eq_true rfl) (by decide) (by decide) rfl rfl (wk_X4_next _ _ hw) (fun r29 M30 hw => ?_)
          refine gh_bipush (v := (nI 99)) dc_X4_readCars_29 gb_99 ?_
          refine gh_icmp_eq (tgt := 40) dc_X4_readCars_31 rfl (fun c31 => ?_) (fun c31 => ?_)
          · replace hw := hw.1 c31
            refine gh_iload_n dc_X4_readCars_40 rfl ?_
            refine gh_bipush (v := (nI 6)) dc_X4_readCars_41 gb_6 ?_
            refine gh_icmp_ne (tgt := 52) dc_X4_readCars_43 rfl (fun c32 => ?_) (fun c32 => ?_)
            · replace hw := hw.1 c32
              refine gh_aload_n dc_X4_readCars_52 rfl ?_
              refine gh_dupR dc_X4_readCars_53 ?_
              refine gh_getI (k := 4) (t := 0) dc_X4_readCars_54 fl_RX4_15 (by decide) (by decide) rfl rfl ?_
              refine gh_iconst (v := (nI 1)) dc_X4_readCars_57 gc_1 ?_
              refine gh_iadd dc_X4_readCars_58 ?_
              refine gh_put (k := 4) (t := 0) dc_X4_readCars_59 fl_RX4_15 (by decide) (by decide) rfl rfl (fun _ h => by cases h; rfl) rfl rfl ?_
              obtain ⟨M33, eM33⟩ : ∃ z, z = (gh_st M30 4 0 2 ((M30 4 0 2) + (nI 1))) := ⟨_, rfl⟩
              rw [← eM33]
              replace hw := hw _ eM33
              refine gh_aload_n dc_X4_readCars_62 rfl ?_
              refine gh_iconst (v := (nI 1)) dc_X4_readCars_63 gc_1 ?_
              refine gh_iconst (v := (nI 4)) dc_X4_readCars_64 gc_4 ?_
              refine gh_callVi (mi' := mi_X4_readNumber) (as := [vI (nI 1), vI (nI 4)]) (S := []) (k := 4) (t := 0) dc_X4_readCars_65 ml_RX4_41 ok_X4_readNumber rfl rfl (by decide) (Nat.le_of_ble_eq_true rfl) (by decide) (by decide) rfl rfl (wk_X4_readNumber _ _ _ _ hw) (fun r34 M35 hw => ?_)
              refine gh_istore_n (L' := [some (vR 4 0), some (vR 6 t0), some (vI x2), some (vI r34), none, none]) dc_X4_readCars_68 (by decide) rfl rfl ?_
              refine gh_aload_n dc_X4_readCars_69 rfl ?_
              refine gh_bipush (v := (nI 44)) dc_X4_readCars_70 gb_44 ?_
              refine gh_callVi (mi' := mi_X4_readSign) (as := [vI (nI 44)]) (S := []) (k := 4) (t := 0) dc_X4_readCars_72 ml_RX4_37 ok_X4_readSign rfl rfl (by decide) (Nat.le_of_ble_eq_true rfl) (by decide) (by decide) rfl rfl (wk_X4_readSign _ _ _ hw) (fun r36 M37 hw => ?_)
              refine gh_popI dc_X4_readCars_75 ?_
              refine gh_aload_n dc_X4_readCars_76 rfl ?_
              refine gh_iconst (v := (nI 1)) dc_X4_readCars_77 gc_1 ?_
              refine gh_bipush (v := (nI 60)) dc_X4_readCars_78 gb_60 ?_
              refine gh_callVi (mi' := mi_X4_readNumber) (as := [vI (nI 1), vI (nI 60)]) (S := []) (k := 4) (t := 0) dc_X4_readCars_80 ml_RX4_41 ok_X4_readNumber rfl rfl (by decide) (Nat.le_of_ble_eq_true rfl) (by decide) (by decide) rfl rfl (wk_X4_readNumber _ _ _ _ hw) (fun r38 M39 hw => ?_)
              refine gh_istore (L' := [some (vR 4 0), some (vR 6 t0), some (vI x2), some (vI r34), some (vI r38), none]) dc_X4_readCars_83 (by decide) rfl rfl ?_
              refine gh_aload_n dc_X4_readCars_85 rfl ?_
              refine gh_bipush (v := (nI 44)) dc_X4_readCars_86 gb_44 ?_
              refine gh_callVi (mi' := mi_X4_readSign) (as := [vI (nI 44)]) (S := []) (k := 4) (t := 0) dc_X4_readCars_88 ml_RX4_37 ok_X4_readSign rfl rfl (by decide) (Nat.le_of_ble_eq_true rfl) (by decide) (by decide) rfl rfl (wk_X4_readSign _ _ _ hw) (fun r40 M41 hw => ?_)
              refine gh_popI dc_X4_readCars_91 ?_
              refine gh_aload_n dc_X4_readCars_92 rfl ?_
              refine gh_iconst (v := (nI 1)) dc_X4_readCars_93 gc_1 ?_
              refine gh_iconst (v := (nI 3)) dc_X4_readCars_94 gc_3 ?_
              refine gh_callVi (mi' := mi_X4_readNumber) (as := [vI (nI 1), vI (nI 3)]) (S := []) (k := 4) (t := 0) dc_X4_readCars_95 ml_RX4_41 ok_X4_readNumber rfl rfl (by decide) (Nat.le_of_ble_eq_true rfl) (by decide) (by decide) rfl rfl (wk_X4_readNumber _ _ _ _ hw) (fun r42 M43 hw => ?_)
              refine gh_istore (L' := [some (vR 4 0), some (vR 6 t0), some (vI x2), some (vI r34), some (vI r38), some (vI r42)]) dc_X4_readCars_98 (by decide) rfl rfl ?_
              refine gh_aload_n dc_X4_readCars_100 rfl ?_
              refine gh_bipush (v := (nI 59)) dc_X4_readCars_101 gb_59 ?_
              refine gh_callVi (mi' := mi_X4_readSign) (as := [vI (nI 59)]) (S := []) (k := 4) (t := 0) dc_X4_readCars_103 ml_RX4_37 ok_X4_readSign rfl rfl (by decide) (Nat.le_of_ble_eq_true rfl) (by decide) (by decide) rfl rfl (wk_X4_readSign _ _ _ hw) (fun r44 M45 hw => ?_)
              refine gh_if_ne (tgt := 111) dc_X4_readCars_106 rfl (fun c46 => ?_) (fun c46 => ?_)
              · replace hw := hw.1 c46
                refine gh_aload_n dc_X4_readCars_111 rfl ?_
                refine gh_iload_n dc_X4_readCars_112 rfl ?_
                refine gh_iload dc_X4_readCars_113 rfl ?_
                refine gh_iload dc_X4_readCars_115 rfl ?_
                refine gh_callVv (mi' := mi_X5_addCar) (as := [vI r34, vI r38, vI r42]) (S := []) (k := 6) (t := t0) dc_X4_readCars_117 ml_RX4_66 ok_X5_addCar rfl rfl (by decide) (Nat.le_of_ble_eq_true rfl) (by decide) ht0 rfl rfl (wk_X5_addCar ht0 _ _ _ _ _ hw) (fun M48 hw => ?_)
                obtain ⟨y2_49, ey2_49⟩ : ∃ z, z = (x2 + (nI 1)) := ⟨_, rfl⟩
                replace hw := hw _ ey2_49
                refine gh_iinc (v := y2_49) (L' := [some (vR 4 0), some (vR 6 t0), some (vI y2_49), some (vI r34), some (vI r38), some (vI r42)]) dc_X4_readCars_120 rfl ((congrArg (fun z => x2 + z) gc_1).trans ey2_49.symm) (by decide) rfl rfl ?_
                refine gh_goto (tgt := 2) dc_X4_readCars_123 rfl ?_
                refine gh_drop (pc' := 0) [some (vR 4 0), some (vR 6 t0), some (vI y2_49), none, none, none] ⟨rfl, rfl, rfl, trivial⟩ ?_
                exact ih _ _ hw
              · replace hw := hw.2 c46
                refine gh_iconst (v := (nI 0)) dc_X4_readCars_109 gc_0 ?_
                exact gh_zret dc_X4_readCars_110 hE rfl (by decide) hw
            · replace hw := hw.2 c32
              refine gh_aload_n dc_X4_readCars_46 rfl ?_
              refine gh_iconst (v := (nI 3)) dc_X4_readCars_47 gc_3 ?_
              refine gh_callVi (mi' := mi_X4_faulty) (as := [vI (nI 3)]) (S := []) (k := 4) (t := 0) dc_X4_readCars_48 ml_RX4_56 ok_X4_faulty rfl rfl (by decide) (Nat.le_of_ble_eq_true rfl) (by decide) (by decide) rfl rfl (wk_X4_faulty _ _ _ hw) (fun r50 M51 hw => ?_)
              exact gh_zret dc_X4_readCars_51 hE rfl hw.1 hw.2
          · replace hw := hw.2 c31
            refine gh_aload_n dc_X4_readCars_34 rfl ?_
            refine gh_iconst (v := (nI 1)) dc_X4_readCars_35 gc_1 ?_
            refine gh_callVi (mi' := mi_X4_faulty) (as := [vI (nI 1)]) (S := []) (k := 4) (t := 0) dc_X4_readCars_36 ml_RX4_56 ok_X4_faulty rfl rfl (by decide) (Nat.le_of_ble_eq_true rfl) (by decide) (by decide) rfl rfl (wk_X4_faulty _ _ _ hw) (fun r52 M53 hw => ?_)
            exact gh_zret dc_X4_readCars_39 hE rfl hw.1 hw.2
        · replace hw := hw.2 c28
          refine gh_iconst (v := (nI 1)) dc_X4_readCars_23 gc_1 ?_
          exact gh_zret dc_X4_readCars_24 hE rfl (by decide) hw
theorem wk_X4_readCars {t0 : Nat} (ht0 : t0 < 29) (Q : Int32 → gh_M → Prop)  (M : gh_M) (hw : wp_X4_readCars t0  M Q) : gh_Calls 3 mi_X4_readCars [vR 4 0, vR 6 t0] M (gh_Qi Q) := by
  refine gh_of (by decide) rfl 4 rfl (L0 := [some (vR 4 0), some (vR 6 t0), none, none, none, none]) rfl (fun wd x hE => ?_)
  unfold wp_X4_readCars at hw
  refine gh_iconst (v := (nI 0)) dc_X4_readCars_0 gc_0 ?_
  refine gh_istore_n (L' := [some (vR 4 0), some (vR 6 t0), some (vI (nI 0)), none, none, none]) dc_X4_readCars_1 (by decide) rfl rfl ?_
  refine gh_drop (pc' := 0) [some (vR 4 0), some (vR 6 t0), some (vI (nI 0)), none, none, none] ⟨rfl, rfl, rfl, trivial⟩ ?_
  obtain ⟨k, hw⟩ := hw
  exact lk_X4_readCars_2 ht0 hE  k _ _ hw
theorem wk_X4_readInto {t0 : Nat} (ht0 : t0 < 29) (Q : Int32 → gh_M → Prop)  (M : gh_M) (hw : wp_X4_readInto t0  M Q) : gh_Calls 4 mi_X4_readInto [vR 4 0, vR 6 t0] M (gh_Qi Q) := by
  refine gh_of (by decide) rfl 0 rfl (L0 := [some (vR 4 0), some (vR 6 t0)]) rfl (fun wd x hE => ?_)
  unfold wp_X4_readInto at hw
  refine gh_aload_n dc_X4_readInto_0 rfl ?_
  refine gh_iconst (v := (nI 0)) dc_X4_readInto_1 gc_0 ?_
  refine gh_put (k := 4) (t := 0) dc_X4_readInto_2 fl_RX4_15 (by decide) (by decide) rfl rfl (fun _ h => by cases h; rfl) rfl rfl ?_
  obtain ⟨M1, eM1⟩ : ∃ z, z = (gh_st M 4 0 2 (nI 0)) := ⟨_, rfl⟩
  rw [← eM1]
  replace hw := hw _ eM1
  refine gh_aload_n dc_X4_readInto_5 rfl ?_
  refine gh_iconst (v := (nI 0)) dc_X4_readInto_6 gc_0 ?_
  refine gh_put (k := 4) (t := 0) dc_X4_readInto_7 fl_RX4_19 (by decide) (by decide) rfl rfl (fun _ h => by cases h; rfl) rfl rfl ?_
  obtain ⟨M2, eM2⟩ : ∃ z, z = (gh_st M1 4 0 3 (nI 0)) := ⟨_, rfl⟩
  rw [← eM2]
  replace hw := hw _ eM2
  refine gh_aload_n dc_X4_readInto_10 rfl ?_
  refine gh_callVv (mi' := mi_X5_clear) (as := []) (S := []) (k := 6) (t := t0) dc_X4_readInto_11 ml_RX4_22 ok_X5_clear rfl rfl (by decide) (Nat.le_of_ble_eq_true rfl) (by decide) ht0 rfl rfl (wk_X5_clear ht0 _ _ hw) (fun M4 hw => ?_)
  refine gh_aload_n dc_X4_readInto_14 rfl ?_
  refine gh_aload_n dc_X4_readInto_15 rfl ?_
  refine gh_callVi (mi' := mi_X4_readLaw) (as := [vR 6 t0]) (S := []) (k := 4) (t := 0) dc_X4_readInto_16 ml_RX4_27 ok_X4_readLaw rfl rfl (by decide) (Nat.le_of_ble_eq_true rfl) (by decide) (by decide) rfl rfl (wk_X4_readLaw ht0 _ _ hw) (fun r5 M6 hw => ?_)
  refine gh_if_eq (tgt := 42) dc_X4_readInto_19 rfl (fun c7 => ?_) (fun c7 => ?_)
  · replace hw := hw.1 c7
    refine gh_iconst (v := (nI 0)) dc_X4_readInto_42 gc_0 ?_
    exact gh_zret dc_X4_readInto_43 hE rfl (by decide) hw
  · replace hw := hw.2 c7
    refine gh_aload_n dc_X4_readInto_22 rfl ?_
    refine gh_aload_n dc_X4_readInto_23 rfl ?_
    refine gh_callVi (mi' := mi_X4_readTricks) (as := [vR 6 t0]) (S := []) (k := 4) (t := 0) dc_X4_readInto_24 ml_RX4_31 ok_X4_readTricks rfl rfl (by decide) (Nat.le_of_ble_eq_true rfl) (by decide) (by decide) rfl rfl (wk_X4_readTricks ht0 _ _ hw) (fun r8 M9 hw => ?_)
    refine gh_if_eq (tgt := 42) dc_X4_readInto_27 rfl (fun c10 => ?_) (fun c10 => ?_)
    · replace hw := hw.1 c10
      refine gh_iconst (v := (nI 0)) dc_X4_readInto_42 gc_0 ?_
      exact gh_zret dc_X4_readInto_43 hE rfl (by decide) hw
    · replace hw := hw.2 c10
      refine gh_aload_n dc_X4_readInto_30 rfl ?_
      refine gh_aload_n dc_X4_readInto_31 rfl ?_
      refine gh_callVi (mi' := mi_X4_readCars) (as := [vR 6 t0]) (S := []) (k := 4) (t := 0) dc_X4_readInto_32 ml_RX4_34 ok_X4_readCars rfl rfl (by decide) (Nat.le_of_ble_eq_true rfl) (by decide) (by decide) rfl rfl (wk_X4_readCars ht0 _ _ hw) (fun r11 M12 hw => ?_)
      refine gh_if_eq (tgt := 42) dc_X4_readInto_35 rfl (fun c13 => ?_) (fun c13 => ?_)
      · replace hw := hw.1 c13
        refine gh_iconst (v := (nI 0)) dc_X4_readInto_42 gc_0 ?_
        exact gh_zret dc_X4_readInto_43 hE rfl (by decide) hw
      · replace hw := hw.2 c13
        refine gh_iconst (v := (nI 1)) dc_X4_readInto_38 gc_1 ?_
        refine gh_goto (tgt := 43) dc_X4_readInto_39 rfl ?_
        exact gh_zret dc_X4_readInto_43 hE rfl (by decide) hw
theorem wk_X5_copyFrom {t0 : Nat} {t1 : Nat} (ht0 : t0 < 29) (ht1 : t1 < 29) (Q : gh_M → Prop)  (M : gh_M) (hw : wp_X5_copyFrom t0 t1  M Q) : gh_Calls 1 mi_X5_copyFrom [vR 6 t0, vR 6 t1] M (gh_Qv Q) := by
  refine gh_of (by decide) rfl 0 rfl (L0 := [some (vR 6 t0), some (vR 6 t1)]) rfl (fun wd x hE => ?_)
  unfold wp_X5_copyFrom at hw
  refine gh_aload_n dc_X5_copyFrom_0 rfl ?_
  refine gh_aload_n dc_X5_copyFrom_1 rfl ?_
  refine gh_getI (k := 6) (t := t1) dc_X5_copyFrom_2 fl_RX5_55 (by decide) ht1 rfl rfl ?_
  refine gh_put (k := 6) (t := t0) dc_X5_copyFrom_5 fl_RX5_55 (by decide) ht0 rfl rfl (fun _ h => by cases h; rfl) rfl rfl ?_
  obtain ⟨M1, eM1⟩ : ∃ z, z = (gh_st M 6 t0 0 (M 6 t1 0)) := ⟨_, rfl⟩
  rw [← eM1]
  replace hw := hw _ eM1
  refine gh_aload_n dc_X5_copyFrom_8 rfl ?_
  refine gh_aload_n dc_X5_copyFrom_9 rfl ?_
  refine gh_getI (k := 6) (t := t1) dc_X5_copyFrom_10 fl_RX5_59 (by decide) ht1 rfl rfl ?_
  refine gh_put (k := 6) (t := t0) dc_X5_copyFrom_13 fl_RX5_59 (by decide) ht0 rfl rfl (fun _ h => by cases h; rfl) rfl rfl ?_
  obtain ⟨M2, eM2⟩ : ∃ z, z = (gh_st M1 6 t0 1 (M1 6 t1 1)) := ⟨_, rfl⟩
  rw [← eM2]
  replace hw := hw _ eM2
  refine gh_aload_n dc_X5_copyFrom_16 rfl ?_
  refine gh_aload_n dc_X5_copyFrom_17 rfl ?_
  refine gh_getI (k := 6) (t := t1) dc_X5_copyFrom_18 fl_RX5_62 (by decide) ht1 rfl rfl ?_
  refine gh_put (k := 6) (t := t0) dc_X5_copyFrom_21 fl_RX5_62 (by decide) ht0 rfl rfl (fun _ h => by cases h; rfl) rfl rfl ?_
  obtain ⟨M3, eM3⟩ : ∃ z, z = (gh_st M2 6 t0 2 (M2 6 t1 2)) := ⟨_, rfl⟩
  rw [← eM3]
  replace hw := hw _ eM3
  refine gh_aload_n dc_X5_copyFrom_24 rfl ?_
  refine gh_aload_n dc_X5_copyFrom_25 rfl ?_
  refine gh_getI (k := 6) (t := t1) dc_X5_copyFrom_26 fl_RX5_65 (by decide) ht1 rfl rfl ?_
  refine gh_put (k := 6) (t := t0) dc_X5_copyFrom_29 fl_RX5_65 (by decide) ht0 rfl rfl (fun _ h => by cases h; rfl) rfl rfl ?_
  obtain ⟨M4, eM4⟩ : ∃ z, z = (gh_st M3 6 t0 3 (M3 6 t1 3)) := ⟨_, rfl⟩
  rw [← eM4]
  replace hw := hw _ eM4
  refine gh_aload_n dc_X5_copyFrom_32 rfl ?_
  refine gh_aload_n dc_X5_copyFrom_33 rfl ?_
  refine gh_getI (k := 6) (t := t1) dc_X5_copyFrom_34 fl_RX5_68 (by decide) ht1 rfl rfl ?_
  refine gh_put (k := 6) (t := t0) dc_X5_copyFrom_37 fl_RX5_68 (by decide) ht0 rfl rfl (fun _ h => by cases h; rfl) rfl rfl ?_
  obtain ⟨M5, eM5⟩ : ∃ z, z = (gh_st M4 6 t0 4 (M4 6 t1 4)) := ⟨_, rfl⟩
  rw [← eM5]
  replace hw := hw _ eM5
  refine gh_aload_n dc_X5_copyFrom_40 rfl ?_
  refine gh_getR (k := 6) (t := t1) dc_X5_copyFrom_41 fl_RX5_9 (by decide) ht1 rfl rfl ?_
  refine gh_iconst (v := (nI 0)) dc_X5_copyFrom_44 gc_0 ?_
  refine gh_aload_n dc_X5_copyFrom_45 rfl ?_
  refine gh_getR (k := 6) (t := t0) dc_X5_copyFrom_46 fl_RX5_9 (by decide) ht0 rfl rfl ?_
  refine gh_iconst (v := (nI 0)) dc_X5_copyFrom_49 gc_0 ?_
  refine gh_iconst (v := (nI 5)) dc_X5_copyFrom_50 gc_5 ?_
  obtain ⟨h6, hw⟩ := hw
  refine gh_copy (z := 0) (ks := 7) (ts := t1) (kd := 7) (td := t0) (S := []) dc_X5_copyFrom_51 tw_389 tw_316 tw_315 tw_10 (by decide) (Nat.le_of_ble_eq_true rfl) (by decide) rfl rfl (by decide) ht1 (by decide) ht0 h6.1 h6.2.1 h6.2.2.1 h6.2.2.2.1 h6.2.2.2.2 (fun h => absurd h (by decide)) ?_
  obtain ⟨M7, eM7⟩ : ∃ z, z = (gh_row M5 7 t0 (va_cpy (M5 7 t1) (M5 7 t0) (nI 0).toNatClampNeg (nI 0).toNatClampNeg (nI 5).toNatClampNeg)) := ⟨_, rfl⟩
  rw [← eM7]
  replace hw := hw _ eM7
  refine gh_aload_n dc_X5_copyFrom_54 rfl ?_
  refine gh_getR (k := 6) (t := t1) dc_X5_copyFrom_55 fl_RX5_15 (by decide) ht1 rfl rfl ?_
  refine gh_iconst (v := (nI 0)) dc_X5_copyFrom_58 gc_0 ?_
  refine gh_aload_n dc_X5_copyFrom_59 rfl ?_
  refine gh_getR (k := 6) (t := t0) dc_X5_copyFrom_60 fl_RX5_15 (by decide) ht0 rfl rfl ?_
  refine gh_iconst (v := (nI 0)) dc_X5_copyFrom_63 gc_0 ?_
  refine gh_iconst (v := (nI 5)) dc_X5_copyFrom_64 gc_5 ?_
  obtain ⟨h8, hw⟩ := hw
  refine gh_copy (z := 0) (ks := 8) (ts := t1) (kd := 8) (td := t0) (S := []) dc_X5_copyFrom_65 tw_389 tw_316 tw_315 tw_10 (by decide) (Nat.le_of_ble_eq_true rfl) (by decide) rfl rfl (by decide) ht1 (by decide) ht0 h8.1 h8.2.1 h8.2.2.1 h8.2.2.2.1 h8.2.2.2.2 (fun h => absurd h (by decide)) ?_
  obtain ⟨M9, eM9⟩ : ∃ z, z = (gh_row M7 8 t0 (va_cpy (M7 8 t1) (M7 8 t0) (nI 0).toNatClampNeg (nI 0).toNatClampNeg (nI 5).toNatClampNeg)) := ⟨_, rfl⟩
  rw [← eM9]
  replace hw := hw _ eM9
  refine gh_aload_n dc_X5_copyFrom_68 rfl ?_
  refine gh_getR (k := 6) (t := t1) dc_X5_copyFrom_69 fl_RX5_18 (by decide) ht1 rfl rfl ?_
  refine gh_iconst (v := (nI 0)) dc_X5_copyFrom_72 gc_0 ?_
  refine gh_aload_n dc_X5_copyFrom_73 rfl ?_
  refine gh_getR (k := 6) (t := t0) dc_X5_copyFrom_74 fl_RX5_18 (by decide) ht0 rfl rfl ?_
  refine gh_iconst (v := (nI 0)) dc_X5_copyFrom_77 gc_0 ?_
  refine gh_iconst (v := (nI 5)) dc_X5_copyFrom_78 gc_5 ?_
  obtain ⟨h10, hw⟩ := hw
  refine gh_copy (z := 0) (ks := 9) (ts := t1) (kd := 9) (td := t0) (S := []) dc_X5_copyFrom_79 tw_389 tw_316 tw_315 tw_10 (by decide) (Nat.le_of_ble_eq_true rfl) (by decide) rfl rfl (by decide) ht1 (by decide) ht0 h10.1 h10.2.1 h10.2.2.1 h10.2.2.2.1 h10.2.2.2.2 (fun h => absurd h (by decide)) ?_
  obtain ⟨M11, eM11⟩ : ∃ z, z = (gh_row M9 9 t0 (va_cpy (M9 9 t1) (M9 9 t0) (nI 0).toNatClampNeg (nI 0).toNatClampNeg (nI 5).toNatClampNeg)) := ⟨_, rfl⟩
  rw [← eM11]
  replace hw := hw _ eM11
  refine gh_aload_n dc_X5_copyFrom_82 rfl ?_
  refine gh_getR (k := 6) (t := t1) dc_X5_copyFrom_83 fl_RX5_21 (by decide) ht1 rfl rfl ?_
  refine gh_iconst (v := (nI 0)) dc_X5_copyFrom_86 gc_0 ?_
  refine gh_aload_n dc_X5_copyFrom_87 rfl ?_
  refine gh_getR (k := 6) (t := t0) dc_X5_copyFrom_88 fl_RX5_21 (by decide) ht0 rfl rfl ?_
  refine gh_iconst (v := (nI 0)) dc_X5_copyFrom_91 gc_0 ?_
  refine gh_iconst (v := (nI 5)) dc_X5_copyFrom_92 gc_5 ?_
  obtain ⟨h12, hw⟩ := hw
  refine gh_copy (z := 1) (ks := 10) (ts := t1) (kd := 10) (td := t0) (S := []) dc_X5_copyFrom_93 tw_389 tw_316 tw_315 tw_10 (by decide) (Nat.le_of_ble_eq_true rfl) (by decide) rfl rfl (by decide) ht1 (by decide) ht0 h12.1 h12.2.1 h12.2.2.1 h12.2.2.2.1 h12.2.2.2.2.1 (fun _ => h12.2.2.2.2.2) ?_
  obtain ⟨M13, eM13⟩ : ∃ z, z = (gh_row M11 10 t0 (va_cpy (M11 10 t1) (M11 10 t0) (nI 0).toNatClampNeg (nI 0).toNatClampNeg (nI 5).toNatClampNeg)) := ⟨_, rfl⟩
  rw [← eM13]
  replace hw := hw _ eM13
  refine gh_aload_n dc_X5_copyFrom_96 rfl ?_
  refine gh_getR (k := 6) (t := t1) dc_X5_copyFrom_97 fl_RX5_25 (by decide) ht1 rfl rfl ?_
  refine gh_iconst (v := (nI 0)) dc_X5_copyFrom_100 gc_0 ?_
  refine gh_aload_n dc_X5_copyFrom_101 rfl ?_
  refine gh_getR (k := 6) (t := t0) dc_X5_copyFrom_102 fl_RX5_25 (by decide) ht0 rfl rfl ?_
  refine gh_iconst (v := (nI 0)) dc_X5_copyFrom_105 gc_0 ?_
  refine gh_iconst (v := (nI 5)) dc_X5_copyFrom_106 gc_5 ?_
  obtain ⟨h14, hw⟩ := hw
  refine gh_copy (z := 0) (ks := 11) (ts := t1) (kd := 11) (td := t0) (S := []) dc_X5_copyFrom_107 tw_389 tw_316 tw_315 tw_10 (by decide) (Nat.le_of_ble_eq_true rfl) (by decide) rfl rfl (by decide) ht1 (by decide) ht0 h14.1 h14.2.1 h14.2.2.1 h14.2.2.2.1 h14.2.2.2.2 (fun h => absurd h (by decide)) ?_
  obtain ⟨M15, eM15⟩ : ∃ z, z = (gh_row M13 11 t0 (va_cpy (M13 11 t1) (M13 11 t0) (nI 0).toNatClampNeg (nI 0).toNatClampNeg (nI 5).toNatClampNeg)) := ⟨_, rfl⟩
  rw [← eM15]
  replace hw := hw _ eM15
  refine gh_aload_n dc_X5_copyFrom_110 rfl ?_
  refine gh_getR (k := 6) (t := t1) dc_X5_copyFrom_111 fl_RX5_28 (by decide) ht1 rfl rfl ?_
  refine gh_iconst (v := (nI 0)) dc_X5_copyFrom_114 gc_0 ?_
  refine gh_aload_n dc_X5_copyFrom_115 rfl ?_
  refine gh_getR (k := 6) (t := t0) dc_X5_copyFrom_116 fl_RX5_28 (by decide) ht0 rfl rfl ?_
  refine gh_iconst (v := (nI 0)) dc_X5_copyFrom_119 gc_0 ?_
  refine gh_bipush (v := (nI 6)) dc_X5_copyFrom_120 gb_6 ?_
  obtain ⟨h16, hw⟩ := hw
  refine gh_copy (z := 0) (ks := 12) (ts := t1) (kd := 12) (td := t0) (S := []) dc_X5_copyFrom_122 tw_389 tw_316 tw_315 tw_10 (by decide) (Nat.le_of_ble_eq_true rfl) (by decide) rfl rfl (by decide) ht1 (by decide) ht0 h16.1 h16.2.1 h16.2.2.1 h16.2.2.2.1 h16.2.2.2.2 (fun h => absurd h (by decide)) ?_
  obtain ⟨M17, eM17⟩ : ∃ z, z = (gh_row M15 12 t0 (va_cpy (M15 12 t1) (M15 12 t0) (nI 0).toNatClampNeg (nI 0).toNatClampNeg (nI 6).toNatClampNeg)) := ⟨_, rfl⟩
  rw [← eM17]
  replace hw := hw _ eM17
  refine gh_aload_n dc_X5_copyFrom_125 rfl ?_
  refine gh_getR (k := 6) (t := t1) dc_X5_copyFrom_126 fl_RX5_31 (by decide) ht1 rfl rfl ?_
  refine gh_iconst (v := (nI 0)) dc_X5_copyFrom_129 gc_0 ?_
  refine gh_aload_n dc_X5_copyFrom_130 rfl ?_
  refine gh_getR (k := 6) (t := t0) dc_X5_copyFrom_131 fl_RX5_31 (by decide) ht0 rfl rfl ?_
  refine gh_iconst (v := (nI 0)) dc_X5_copyFrom_134 gc_0 ?_
  refine gh_bipush (v := (nI 6)) dc_X5_copyFrom_135 gb_6 ?_
  obtain ⟨h18, hw⟩ := hw
  refine gh_copy (z := 0) (ks := 13) (ts := t1) (kd := 13) (td := t0) (S := []) dc_X5_copyFrom_137 tw_389 tw_316 tw_315 tw_10 (by decide) (Nat.le_of_ble_eq_true rfl) (by decide) rfl rfl (by decide) ht1 (by decide) ht0 h18.1 h18.2.1 h18.2.2.1 h18.2.2.2.1 h18.2.2.2.2 (fun h => absurd h (by decide)) ?_
  obtain ⟨M19, eM19⟩ : ∃ z, z = (gh_row M17 13 t0 (va_cpy (M17 13 t1) (M17 13 t0) (nI 0).toNatClampNeg (nI 0).toNatClampNeg (nI 6).toNatClampNeg)) := ⟨_, rfl⟩
  rw [← eM19]
  replace hw := hw _ eM19
  refine gh_aload_n dc_X5_copyFrom_140 rfl ?_
  refine gh_getR (k := 6) (t := t1) dc_X5_copyFrom_141 fl_RX5_34 (by decide) ht1 rfl rfl ?_
  refine gh_iconst (v := (nI 0)) dc_X5_copyFrom_144 gc_0 ?_
  refine gh_aload_n dc_X5_copyFrom_145 rfl ?_
  refine gh_getR (k := 6) (t := t0) dc_X5_copyFrom_146 fl_RX5_34 (by decide) ht0 rfl rfl ?_
  refine gh_iconst (v := (nI 0)) dc_X5_copyFrom_149 gc_0 ?_
  refine gh_bipush (v := (nI 6)) dc_X5_copyFrom_150 gb_6 ?_
  obtain ⟨h20, hw⟩ := hw
  refine gh_copy (z := 0) (ks := 14) (ts := t1) (kd := 14) (td := t0) (S := []) dc_X5_copyFrom_152 tw_389 tw_316 tw_315 tw_10 (by decide) (Nat.le_of_ble_eq_true rfl) (by decide) rfl rfl (by decide) ht1 (by decide) ht0 h20.1 h20.2.1 h20.2.2.1 h20.2.2.2.1 h20.2.2.2.2 (fun h => absurd h (by decide)) ?_
  obtain ⟨M21, eM21⟩ : ∃ z, z = (gh_row M19 14 t0 (va_cpy (M19 14 t1) (M19 14 t0) (nI 0).toNatClampNeg (nI 0).toNatClampNeg (nI 6).toNatClampNeg)) := ⟨_, rfl⟩
  rw [← eM21]
  replace hw := hw _ eM21
  refine gh_aload_n dc_X5_copyFrom_155 rfl ?_
  refine gh_getR (k := 6) (t := t1) dc_X5_copyFrom_156 fl_RX5_37 (by decide) ht1 rfl rfl ?_
  refine gh_iconst (v := (nI 0)) dc_X5_copyFrom_159 gc_0 ?_
  refine gh_aload_n dc_X5_copyFrom_160 rfl ?_
  refine gh_getR (k := 6) (t := t0) dc_X5_copyFrom_161 fl_RX5_37 (by decide) ht0 rfl rfl ?_
  refine gh_iconst (v := (nI 0)) dc_X5_copyFrom_164 gc_0 ?_
  refine gh_bipush (v := (nI 6)) dc_X5_copyFrom_165 gb_6 ?_
  obtain ⟨h22, hw⟩ := hw
  refine gh_copy (z := 0) (ks := 15) (ts := t1) (kd := 15) (td := t0) (S := []) dc_X5_copyFrom_167 tw_389 tw_316 tw_315 tw_10 (by decide) (Nat.le_of_ble_eq_true rfl) (by decide) rfl rfl (by decide) ht1 (by decide) ht0 h22.1 h22.2.1 h22.2.2.1 h22.2.2.2.1 h22.2.2.2.2 (fun h => absurd h (by decide)) ?_
  obtain ⟨M23, eM23⟩ : ∃ z, z = (gh_row M21 15 t0 (va_cpy (M21 15 t1) (M21 15 t0) (nI 0).toNatClampNeg (nI 0).toNatClampNeg (nI 6).toNatClampNeg)) := ⟨_, rfl⟩
  rw [← eM23]
  replace hw := hw _ eM23
  refine gh_aload_n dc_X5_copyFrom_170 rfl ?_
  refine gh_getR (k := 6) (t := t1) dc_X5_copyFrom_171 fl_RX5_40 (by decide) ht1 rfl rfl ?_
  refine gh_iconst (v := (nI 0)) dc_X5_copyFrom_174 gc_0 ?_
  refine gh_aload_n dc_X5_copyFrom_175 rfl ?_
  refine gh_getR (k := 6) (t := t0) dc_X5_copyFrom_176 fl_RX5_40 (by decide) ht0 rfl rfl ?_
  refine gh_iconst (v := (nI 0)) dc_X5_copyFrom_179 gc_0 ?_
  refine gh_bipush (v := (nI 6)) dc_X5_copyFrom_180 gb_6 ?_
  obtain ⟨h24, hw⟩ := hw
  refine gh_copy (z := 0) (ks := 16) (ts := t1) (kd := 16) (td := t0) (S := []) dc_X5_copyFrom_182 tw_389 tw_316 tw_315 tw_10 (by decide) (Nat.le_of_ble_eq_true rfl) (by decide) rfl rfl (by decide) ht1 (by decide) ht0 h24.1 h24.2.1 h24.2.2.1 h24.2.2.2.1 h24.2.2.2.2 (fun h => absurd h (by decide)) ?_
  obtain ⟨M25, eM25⟩ : ∃ z, z = (gh_row M23 16 t0 (va_cpy (M23 16 t1) (M23 16 t0) (nI 0).toNatClampNeg (nI 0).toNatClampNeg (nI 6).toNatClampNeg)) := ⟨_, rfl⟩
  rw [← eM25]
  replace hw := hw _ eM25
  refine gh_aload_n dc_X5_copyFrom_185 rfl ?_
  refine gh_getR (k := 6) (t := t1) dc_X5_copyFrom_186 fl_RX5_43 (by decide) ht1 rfl rfl ?_
  refine gh_iconst (v := (nI 0)) dc_X5_copyFrom_189 gc_0 ?_
  refine gh_aload_n dc_X5_copyFrom_190 rfl ?_
  refine gh_getR (k := 6) (t := t0) dc_X5_copyFrom_191 fl_RX5_43 (by decide) ht0 rfl rfl ?_
  refine gh_iconst (v := (nI 0)) dc_X5_copyFrom_194 gc_0 ?_
  refine gh_bipush (v := (nI 6)) dc_X5_copyFrom_195 gb_6 ?_
  obtain ⟨h26, hw⟩ := hw
  refine gh_copy (z := 0) (ks := 17) (ts := t1) (kd := 17) (td := t0) (S := []) dc_X5_copyFrom_197 tw_389 tw_316 tw_315 tw_10 (by decide) (Nat.le_of_ble_eq_true rfl) (by decide) rfl rfl (by decide) ht1 (by decide) ht0 h26.1 h26.2.1 h26.2.2.1 h26.2.2.2.1 h26.2.2.2.2 (fun h => absurd h (by decide)) ?_
  obtain ⟨M27, eM27⟩ : ∃ z, z = (gh_row M25 17 t0 (va_cpy (M25 17 t1) (M25 17 t0) (nI 0).toNatClampNeg (nI 0).toNatClampNeg (nI 6).toNatClampNeg)) := ⟨_, rfl⟩
  rw [← eM27]
  replace hw := hw _ eM27
  refine gh_aload_n dc_X5_copyFrom_200 rfl ?_
  refine gh_getR (k := 6) (t := t1) dc_X5_copyFrom_201 fl_RX5_46 (by decide) ht1 rfl rfl ?_
  refine gh_iconst (v := (nI 0)) dc_X5_copyFrom_204 gc_0 ?_
  refine gh_aload_n dc_X5_copyFrom_205 rfl ?_
  refine gh_getR (k := 6) (t := t0) dc_X5_copyFrom_206 fl_RX5_46 (by decide) ht0 rfl rfl ?_
  refine gh_iconst (v := (nI 0)) dc_X5_copyFrom_209 gc_0 ?_
  refine gh_bipush (v := (nI 6)) dc_X5_copyFrom_210 gb_6 ?_
  obtain ⟨h28, hw⟩ := hw
  refine gh_copy (z := 1) (ks := 18) (ts := t1) (kd := 18) (td := t0) (S := []) dc_X5_copyFrom_212 tw_389 tw_316 tw_315 tw_10 (by decide) (Nat.le_of_ble_eq_true rfl) (by decide) rfl rfl (by decide) ht1 (by decide) ht0 h28.1 h28.2.1 h28.2.2.1 h28.2.2.2.1 h28.2.2.2.2.1 (fun _ => h28.2.2.2.2.2) ?_
  obtain ⟨M29, eM29⟩ : ∃ z, z = (gh_row M27 18 t0 (va_cpy (M27 18 t1) (M27 18 t0) (nI 0).toNatClampNeg (nI 0).toNatClampNeg (nI 6).toNatClampNeg)) := ⟨_, rfl⟩
  rw [← eM29]
  replace hw := hw _ eM29
  refine gh_aload_n dc_X5_copyFrom_215 rfl ?_
  refine gh_getR (k := 6) (t := t1) dc_X5_copyFrom_216 fl_RX5_49 (by decide) ht1 rfl rfl ?_
  refine gh_iconst (v := (nI 0)) dc_X5_copyFrom_219 gc_0 ?_
  refine gh_aload_n dc_X5_copyFrom_220 rfl ?_
  refine gh_getR (k := 6) (t := t0) dc_X5_copyFrom_221 fl_RX5_49 (by decide) ht0 rfl rfl ?_
  refine gh_iconst (v := (nI 0)) dc_X5_copyFrom_224 gc_0 ?_
  refine gh_bipush (v := (nI 6)) dc_X5_copyFrom_225 gb_6 ?_
  obtain ⟨h30, hw⟩ := hw
  refine gh_copy (z := 0) (ks := 19) (ts := t1) (kd := 19) (td := t0) (S := []) dc_X5_copyFrom_227 tw_389 tw_316 tw_315 tw_10 (by decide) (Nat.le_of_ble_eq_true rfl) (by decide) rfl rfl (by decide) ht1 (by decide) ht0 h30.1 h30.2.1 h30.2.2.1 h30.2.2.2.1 h30.2.2.2.2 (fun h => absurd h (by decide)) ?_
  obtain ⟨M31, eM31⟩ : ∃ z, z = (gh_row M29 19 t0 (va_cpy (M29 19 t1) (M29 19 t0) (nI 0).toNatClampNeg (nI 0).toNatClampNeg (nI 6).toNatClampNeg)) := ⟨_, rfl⟩
  rw [← eM31]
  replace hw := hw _ eM31
  refine gh_aload_n dc_X5_copyFrom_230 rfl ?_
  refine gh_getR (k := 6) (t := t1) dc_X5_copyFrom_231 fl_RX5_52 (by decide) ht1 rfl rfl ?_
  refine gh_iconst (v := (nI 0)) dc_X5_copyFrom_234 gc_0 ?_
  refine gh_aload_n dc_X5_copyFrom_235 rfl ?_
  refine gh_getR (k := 6) (t := t0) dc_X5_copyFrom_236 fl_RX5_52 (by decide) ht0 rfl rfl ?_
  refine gh_iconst (v := (nI 0)) dc_X5_copyFrom_239 gc_0 ?_
  refine gh_bipush (v := (nI 12)) dc_X5_copyFrom_240 gb_12 ?_
  obtain ⟨h32, hw⟩ := hw
  refine gh_copy (z := 0) (ks := 20) (ts := t1) (kd := 20) (td := t0) (S := []) dc_X5_copyFrom_242 tw_389 tw_316 tw_315 tw_10 (by decide) (Nat.le_of_ble_eq_true rfl) (by decide) rfl rfl (by decide) ht1 (by decide) ht0 h32.1 h32.2.1 h32.2.2.1 h32.2.2.2.1 h32.2.2.2.2 (fun h => absurd h (by decide)) ?_
  obtain ⟨M33, eM33⟩ : ∃ z, z = (gh_row M31 20 t0 (va_cpy (M31 20 t1) (M31 20 t0) (nI 0).toNatClampNeg (nI 0).toNatClampNeg (nI 12).toNatClampNeg)) := ⟨_, rfl⟩
  rw [← eM33]
  replace hw := hw _ eM33
  exact gh_vret dc_X5_copyFrom_245 hE rfl hw
theorem wk_X2_forget   (Q : gh_M → Prop)  (M : gh_M) (hw : wp_X2_forget   M Q) : gh_Calls 1 mi_X2_forget [vR 24 0] M (gh_Qv Q) := by
  refine gh_of (by decide) rfl 0 rfl (L0 := [some (vR 24 0)]) rfl (fun wd x hE => ?_)
  unfold wp_X2_forget at hw
  refine gh_aload_n dc_X2_forget_0 rfl ?_
  refine gh_iconst (v := (nI 0)) dc_X2_forget_1 gc_0 ?_
  refine gh_put (k := 24) (t := 0) dc_X2_forget_2 fl_RX2_34 (by decide) (by decide) rfl rfl (fun _ h => by cases h; rfl) rfl rfl ?_
  obtain ⟨M1, eM1⟩ : ∃ z, z = (gh_st M 24 0 6 (nI 0)) := ⟨_, rfl⟩
  rw [← eM1]
  replace hw := hw _ eM1
  exact gh_vret dc_X2_forget_5 hE rfl hw
theorem wk_X6_becomes {t0 : Nat} (ht0 : t0 < 29) (Q : gh_M → Prop)  (M : gh_M) (hw : wp_X6_becomes t0  M Q) : gh_Calls 2 mi_X6_becomes [vR 0 0, vR 6 t0] M (gh_Qv Q) := by
  refine gh_of (by decide) rfl 0 rfl (L0 := [some (vR 0 0), some (vR 6 t0)]) rfl (fun wd x hE => ?_)
  unfold wp_X6_becomes at hw
  refine gh_aload_n dc_X6_becomes_0 rfl ?_
  refine gh_getR (k := 0) (t := 0) dc_X6_becomes_1 fl_RX6_25 (by decide) (by decide) rfl rfl ?_
  refine gh_aload_n dc_X6_becomes_4 rfl ?_
  refine gh_callVv (mi' := mi_X5_copyFrom) (as := [vR 6 t0]) (S := []) (k := 6) (t := 0) dc_X6_becomes_5 ml_RX6_310 ok_X5_copyFrom rfl rfl (by decide) (Nat.le_of_ble_eq_true rfl) (by decide) (by decide) rfl rfl (wk_X5_copyFrom (by decide) ht0 _ _ hw) (fun M2 hw => ?_)
  refine gh_aload_n dc_X6_becomes_8 rfl ?_
  refine gh_getR (k := 0) (t := 0) dc_X6_becomes_9 fl_RX6_35 (by decide) (by decide) rfl rfl ?_
  refine gh_iconst (v := (nI 0)) dc_X6_becomes_12 gc_0 ?_
  refine gh_put (k := 21) (t := 0) dc_X6_becomes_13 fl_RX6_132 (by decide) (by decide) rfl rfl (fun _ h => by cases h; rfl) rfl rfl ?_
  obtain ⟨M3, eM3⟩ : ∃ z, z = (gh_st M2 21 0 2 (nI 0)) := ⟨_, rfl⟩
  rw [← eM3]
  replace hw := hw _ eM3
  refine gh_aload_n dc_X6_becomes_16 rfl ?_
  refine gh_getR (k := 0) (t := 0) dc_X6_becomes_17 fl_RX6_46 (by decide) (by decide) rfl rfl ?_
  refine gh_callVv (mi' := mi_X2_forget) (as := []) (S := []) (k := 24) (t := 0) dc_X6_becomes_20 ml_RX6_139 ok_X2_forget rfl rfl (by decide) (Nat.le_of_ble_eq_true rfl) (by decide) (by decide) rfl rfl (wk_X2_forget _ _ hw) (fun M5 hw => ?_)
  exact gh_vret dc_X6_becomes_23 hE rfl hw
theorem wk_X6_train   (Q : Int32 → gh_M → Prop)  (M : gh_M) (hw : wp_X6_train   M Q) : gh_Calls 5 mi_X6_train [vR 0 0] M (gh_Qi Q) := by
  refine gh_of (by decide) rfl 1 rfl (L0 := [some (vR 0 0), none]) rfl (fun wd x hE => ?_)
  unfold wp_X6_train at hw
  refine gh_aload_n dc_X6_train_0 rfl ?_
  refine gh_getR (k := 0) (t := 0) dc_X6_train_1 fl_RX6_18 (by decide) (by decide) rfl rfl ?_
  refine gh_aload_n dc_X6_train_4 rfl ?_
  refine gh_getR (k := 0) (t := 0) dc_X6_train_5 fl_RX6_29 (by decide) (by decide) rfl rfl ?_
  refine gh_callVi (mi' := mi_X4_readInto) (as := [vR 6 1]) (S := []) (k := 4) (t := 0) dc_X6_train_8 ml_RX6_111 ok_X4_readInto rfl rfl (by decide) (Nat.le_of_ble_eq_true rfl) (by decide) (by decide) rfl rfl (wk_X4_readInto (by decide) _ _ hw) (fun r1 M2 hw => ?_)
  refine gh_istore_n (L' := [some (vR 0 0), some (vI r1)]) dc_X6_train_11 (by decide) rfl rfl ?_
  refine gh_aload_n dc_X6_train_12 rfl ?_
  refine gh_getR (k := 0) (t := 0) dc_X6_train_13 fl_RX6_18 (by decide) (by decide) rfl rfl ?_
  refine gh_iconst (v := (nI 0)) dc_X6_train_16 gc_0 ?_
  refine gh_put (k := 4) (t := 0) dc_X6_train_17 fl_RX6_106 (by decide) (by decide) rfl rfl (fun _ h => by cases h; rfl) rfl rfl ?_
  obtain ⟨M3, eM3⟩ : ∃ z, z = (gh_st M2 4 0 1 (nI 0)) := ⟨_, rfl⟩
  rw [← eM3]
  replace hw := hw _ eM3
  refine gh_iload_n dc_X6_train_20 rfl ?_
  refine gh_if_ne (tgt := 46) dc_X6_train_21 rfl (fun c4 => ?_) (fun c4 => ?_)
  · replace hw := hw.1 c4
    refine gh_aload_n dc_X6_train_46 rfl ?_
    refine gh_aload_n dc_X6_train_47 rfl ?_
    refine gh_getR (k := 0) (t := 0) dc_X6_train_48 fl_RX6_29 (by decide) (by decide) rfl rfl ?_
    refine gh_callVv (mi' := mi_X6_becomes) (as := [vR 6 1]) (S := []) (k := 0) (t := 0) dc_X6_train_51 ml_RX6_125 ok_X6_becomes rfl rfl (by decide) (Nat.le_of_ble_eq_true rfl) (by decide) (by decide) rfl rfl (wk_X6_becomes (by decide) _ _ hw) (fun M6 hw => ?_)
    refine gh_aload_n dc_X6_train_54 rfl ?_
    refine gh_getR (k := 0) (t := 0) dc_X6_train_55 fl_RX6_25 (by decide) (by decide) rfl rfl ?_
    refine gh_getI (k := 6) (t := 0) dc_X6_train_58 fl_RX6_129 (by decide) (by decide) rfl rfl ?_
    exact gh_iret dc_X6_train_61 hE rfl hw
  · replace hw := hw.2 c4
    refine gh_aload_n dc_X6_train_24 rfl ?_
    refine gh_aload_n dc_X6_train_25 rfl ?_
    refine gh_getR (k := 0) (t := 0) dc_X6_train_26 fl_RX6_18 (by decide) (by decide) rfl rfl ?_
    refine gh_getI (k := 4) (t := 0) dc_X6_train_29 fl_RX6_115 (by decide) (by decide) rfl rfl ?_
    refine gh_put (k := 0) (t := 0) dc_X6_train_32 fl_RX6_118 (by decide) (by decide) rfl rfl (fun _ h => by cases h; rfl) rfl rfl ?_
    obtain ⟨M7, eM7⟩ : ∃ z, z = (gh_st M3 0 0 8 (M3 4 0 3)) := ⟨_, rfl⟩
    rw [← eM7]
    replace hw := hw _ eM7
    refine gh_ldc (v := (-1000100 : Int32)) dc_X6_train_35 tw_380 ?_
    refine gh_aload_n dc_X6_train_37 rfl ?_
    refine gh_getR (k := 0) (t := 0) dc_X6_train_38 fl_RX6_18 (by decide) (by decide) rfl rfl ?_
    refine gh_getI (k := 4) (t := 0) dc_X6_train_41 fl_RX6_122 (by decide) (by decide) rfl rfl ?_
    refine gh_isub dc_X6_train_44 ?_
    exact gh_iret dc_X6_train_45 hE rfl hw
theorem wk_X6_fault   (Q : Int32 → gh_M → Prop)  (M : gh_M) (hw : wp_X6_fault   M Q) : gh_Calls 1 mi_X6_fault [vR 0 0] M (gh_Qi Q) := by
  refine gh_of (by decide) rfl 0 rfl (L0 := [some (vR 0 0)]) rfl (fun wd x hE => ?_)
  unfold wp_X6_fault at hw
  refine gh_aload_n dc_X6_fault_0 rfl ?_
  refine gh_getI (k := 0) (t := 0) dc_X6_fault_1 fl_RX6_118 (by decide) (by decide) rfl rfl ?_
  exact gh_iret dc_X6_fault_4 hE rfl hw
theorem wk_X0_takeBack {t0 : Nat} (ht0 : t0 < 29) (Q : gh_M → Prop)  (M : gh_M) (hw : wp_X0_takeBack t0  M Q) : gh_Calls 2 mi_X0_takeBack [vR 21 0, vR 6 t0] M (gh_Qv Q) := by
  refine gh_of (by decide) rfl 0 rfl (L0 := [some (vR 21 0), some (vR 6 t0)]) rfl (fun wd x hE => ?_)
  unfold wp_X0_takeBack at hw
  refine gh_aload_n dc_X0_takeBack_0 rfl ?_
  refine gh_aload_n dc_X0_takeBack_1 rfl ?_
  refine gh_getI (k := 21) (t := 0) dc_X0_takeBack_2 fl_RX0_18 (by decide) (by decide) rfl rfl ?_
  refine gh_bipush (v := (nI 24)) dc_X0_takeBack_5 gb_24 ?_
  refine gh_iadd dc_X0_takeBack_7 ?_
  refine gh_iconst (v := (nI 1)) dc_X0_takeBack_8 gc_1 ?_
  refine gh_isub dc_X0_takeBack_9 ?_
  refine gh_bipush (v := (nI 24)) dc_X0_takeBack_10 gb_24 ?_
  obtain ⟨h1, hw⟩ := hw
  refine gh_irem dc_X0_takeBack_12 h1 ?_
  refine gh_put (k := 21) (t := 0) dc_X0_takeBack_13 fl_RX0_18 (by decide) (by decide) rfl rfl (fun _ h => by cases h; rfl) rfl rfl ?_
  obtain ⟨M2, eM2⟩ : ∃ z, z = (gh_st M 21 0 1 ((((M 21 0 1) + (nI 24)) - (nI 1)) - (((M 21 0 1) + (nI 24)) - (nI 1)) / (nI 24) * (nI 24))) := ⟨_, rfl⟩
  rw [← eM2]
  replace hw := hw _ eM2
  refine gh_aload_n dc_X0_takeBack_16 rfl ?_
  refine gh_dupR dc_X0_takeBack_17 ?_
  refine gh_getI (k := 21) (t := 0) dc_X0_takeBack_18 fl_RX0_26 (by decide) (by decide) rfl rfl ?_
  refine gh_iconst (v := (nI 1)) dc_X0_takeBack_21 gc_1 ?_
  refine gh_isub dc_X0_takeBack_22 ?_
  refine gh_put (k := 21) (t := 0) dc_X0_takeBack_23 fl_RX0_26 (by decide) (by decide) rfl rfl (fun _ h => by cases h; rfl) rfl rfl ?_
  obtain ⟨M3, eM3⟩ : ∃ z, z = (gh_st M2 21 0 2 ((M2 21 0 2) - (nI 1))) := ⟨_, rfl⟩
  rw [← eM3]
  replace hw := hw _ eM3
  refine gh_aload_n dc_X0_takeBack_26 rfl ?_
  refine gh_aload_n dc_X0_takeBack_27 rfl ?_
  refine gh_getR (k := 21) (t := 0) dc_X0_takeBack_28 fl_RX0_11 (by decide) (by decide) rfl rfl ?_
  refine gh_aload_n dc_X0_takeBack_31 rfl ?_
  refine gh_getI (k := 21) (t := 0) dc_X0_takeBack_32 fl_RX0_18 (by decide) (by decide) rfl rfl ?_
  obtain ⟨h4, hw⟩ := hw
  refine gh_aald (k := 22) (t := 0) (a := 1) dc_X0_takeBack_35 rfl (by decide) (by decide) (by decide) h4 rfl ?_
  have bj5 := gh_cl h4
  obtain ⟨j5, ej5⟩ : ∃ z, (M3 21 0 1).toNatClampNeg = z := ⟨_, rfl⟩
  rw [ej5]
  rw [ej5] at bj5
  replace hw := hw _ bj5 ej5
  refine gh_callVv (mi' := mi_X5_copyFrom) (as := [vR 6 (2 + j5)]) (S := []) (k := 6) (t := t0) dc_X0_takeBack_36 ml_RX0_22 ok_X5_copyFrom rfl rfl (by decide) (Nat.le_of_ble_eq_true rfl) (by decide) ht0 rfl rfl (wk_X5_copyFrom ht0 (show (2 + j5) < 29 by omega) _ _ hw) (fun M7 hw => ?_)
  exact gh_vret dc_X0_takeBack_39 hE rfl hw
theorem wk_X6_undo   (Q : Int32 → gh_M → Prop)  (M : gh_M) (hw : wp_X6_undo   M Q) : gh_Calls 3 mi_X6_undo [vR 0 0] M (gh_Qi Q) := by
  refine gh_of (by decide) rfl 0 rfl (L0 := [some (vR 0 0)]) rfl (fun wd x hE => ?_)
  unfold wp_X6_undo at hw
  refine gh_aload_n dc_X6_undo_0 rfl ?_
  refine gh_getR (k := 0) (t := 0) dc_X6_undo_1 fl_RX6_35 (by decide) (by decide) rfl rfl ?_
  refine gh_getI (k := 21) (t := 0) dc_X6_undo_4 fl_RX6_132 (by decide) (by decide) rfl rfl ?_
  refine gh_if_ne (tgt := 13) dc_X6_undo_7 rfl (fun c1 => ?_) (fun c1 => ?_)
  · replace hw := hw.1 c1
    refine gh_aload_n dc_X6_undo_13 rfl ?_
    refine gh_getR (k := 0) (t := 0) dc_X6_undo_14 fl_RX6_35 (by decide) (by decide) rfl rfl ?_
    refine gh_aload_n dc_X6_undo_17 rfl ?_
    refine gh_getR (k := 0) (t := 0) dc_X6_undo_18 fl_RX6_25 (by decide) (by decide) rfl rfl ?_
    refine gh_callVv (mi' := mi_X0_takeBack) (as := [vR 6 0]) (S := []) (k := 21) (t := 0) dc_X6_undo_21 ml_RX6_136 ok_X0_takeBack rfl rfl (by decide) (Nat.le_of_ble_eq_true rfl) (by decide) (by decide) rfl rfl (wk_X0_takeBack (by decide) _ _ hw) (fun M3 hw => ?_)
    refine gh_aload_n dc_X6_undo_24 rfl ?_
    refine gh_getR (k := 0) (t := 0) dc_X6_undo_25 fl_RX6_46 (by decide) (by decide) rfl rfl ?_
    refine gh_callVv (mi' := mi_X2_forget) (as := []) (S := []) (k := 24) (t := 0) dc_X6_undo_28 ml_RX6_139 ok_X2_forget rfl rfl (by decide) (Nat.le_of_ble_eq_true rfl) (by decide) (by decide) rfl rfl (wk_X2_forget _ _ hw) (fun M5 hw => ?_)
    refine gh_aload_n dc_X6_undo_31 rfl ?_
    refine gh_getR (k := 0) (t := 0) dc_X6_undo_32 fl_RX6_35 (by decide) (by decide) rfl rfl ?_
    refine gh_getI (k := 21) (t := 0) dc_X6_undo_35 fl_RX6_132 (by decide) (by decide) rfl rfl ?_
    exact gh_iret dc_X6_undo_38 hE rfl hw
  · replace hw := hw.2 c1
    refine gh_ldc (v := (-1000002 : Int32)) dc_X6_undo_10 tw_402 ?_
    exact gh_iret dc_X6_undo_12 hE rfl hw
theorem wk_X6_hasTrain   (Q : Int32 → gh_M → Prop)  (M : gh_M) (hw : wp_X6_hasTrain   M Q) : gh_Calls 1 mi_X6_hasTrain [vR 0 0] M (gh_Qi Q) := by
  refine gh_of (by decide) rfl 0 rfl (L0 := [some (vR 0 0)]) rfl (fun wd x hE => ?_)
  unfold wp_X6_hasTrain at hw
  refine gh_aload_n dc_X6_hasTrain_0 rfl ?_
  refine gh_getR (k := 0) (t := 0) dc_X6_hasTrain_1 fl_RX6_25 (by decide) (by decide) rfl rfl ?_
  refine gh_getI (k := 6) (t := 0) dc_X6_hasTrain_4 fl_RX6_247 (by decide) (by decide) rfl rfl ?_
  refine gh_if_le (tgt := 14) dc_X6_hasTrain_7 rfl (fun c1 => ?_) (fun c1 => ?_)
  · replace hw := hw.1 c1
    refine gh_iconst (v := (nI 0)) dc_X6_hasTrain_14 gc_0 ?_
    exact gh_zret dc_X6_hasTrain_15 hE rfl (by decide) hw
  · replace hw := hw.2 c1
    refine gh_iconst (v := (nI 1)) dc_X6_hasTrain_10 gc_1 ?_
    refine gh_goto (tgt := 15) dc_X6_hasTrain_11 rfl ?_
    exact gh_zret dc_X6_hasTrain_15 hE rfl (by decide) hw
theorem lk_X5_bitsBetween_5 {wd : gh_Wd} {x : gh_X} {Q : Int32 → gh_M → Prop} {t0 : Nat} (ht0 : t0 < 29) (hE : gh_E wd (gh_Qi Q) x)   : ∀ (n : Nat) (x1 : Int32) (x2 : Int32) (x3 : Int32) (x4 : Int32) (M : gh_M), wl_X5_bitsBetween_5 t0 Q n x1 x2 x3 x4 M → gh_J mi_X5_bitsBetween 2 wd x M 5 [some (vR 6 t0), some (vI x1), some (vI x2), some (vI x3), some (vI x4)] [] := by
  intro n
  induction n with
  | zero => intro x1 x2 x3 x4 M hw; exact hw.elim
  | succ n ih =>
    intro x1 x2 x3 x4 M hw
    unfold wl_X5_bitsBetween_5 at hw
    refine gh_iload dc_X5_bitsBetween_5 rfl ?_
    refine gh_aload_n dc_X5_bitsBetween_7 rfl ?_
    refine gh_getI (k := 6) (t := t0) dc_X5_bitsBetween_8 fl_RX5_62 (by decide) ht0 rfl rfl ?_
    refine gh_icmp_ge (tgt := 42) dc_X5_bitsBetween_11 rfl (fun c1 => ?_) (fun c1 => ?_)
    · replace hw := hw.1 c1
      refine gh_iload_n dc_X5_bitsBetween_42 rfl ?_
      exact gh_iret dc_X5_bitsBetween_43 hE rfl hw
    · replace hw := hw.2 c1
      refine gh_aload_n dc_X5_bitsBetween_14 rfl ?_
      refine gh_getR (k := 6) (t := t0) dc_X5_bitsBetween_15 fl_RX5_37 (by decide) ht0 rfl rfl ?_
      refine gh_iload dc_X5_bitsBetween_18 rfl ?_
      obtain ⟨h2, hw⟩ := hw
      refine gh_iald (k := 15) (t := t0) dc_X5_bitsBetween_20 rfl (by decide) ht0 h2 ?_
      refine gh_iload_n dc_X5_bitsBetween_21 rfl ?_
      refine gh_iload_n dc_X5_bitsBetween_22 rfl ?_
      refine gh_callSi (mi' := mi_X6_within) (as := [vI (M 15 t0 x4.toNatClampNeg), vI x1, vI x2]) (S := []) dc_X5_bitsBetween_23 ml_RX5_113 ok_X6_within rfl rfl (by decide) (Nat.le_of_ble_eq_true rfl) (wk_X6_within _ _ _ _ _ hw) (fun r3 M4 hw => ?_)
      refine gh_if_eq (tgt := 36) dc_X5_bitsBetween_26 rfl (fun c5 => ?_) (fun c5 => ?_)
      · replace hw := hw.1 c5
        obtain ⟨y4_6, ey4_6⟩ : ∃ z, z = (x4 + (nI 1)) := ⟨_, rfl⟩
        replace hw := hw _ ey4_6
        refine gh_iinc (v := y4_6) (L' := [some (vR 6 t0), some (vI x1), some (vI x2), some (vI x3), some (vI y4_6)]) dc_X5_bitsBetween_36 rfl ((congrArg (fun z => x4 + z) gc_1).trans ey4_6.symm) (by decide) rfl rfl ?_
        refine gh_goto (tgt := 5) dc_X5_bitsBetween_39 rfl ?_
        refine gh_drop (pc' := 0) [some (vR 6 t0), some (vI x1), some (vI x2), some (vI x3), some (vI y4_6)] ⟨rfl, rfl, rfl, rfl, rfl, trivial⟩ ?_
        exact ih _ _ _ _ _ hw
      · replace hw := hw.2 c5
        refine gh_iload_n dc_X5_bitsBetween_29 rfl ?_
        refine gh_iconst (v := (nI 1)) dc_X5_bitsBetween_30 gc_1 ?_
        refine gh_iload dc_X5_bitsBetween_31 rfl ?_
        refine gh_ishl dc_X5_bitsBetween_33 ?_
        refine gh_ior dc_X5_bitsBetween_34 ?_
        obtain ⟨y3_7, ey3_7⟩ : ∃ z, z = (x3 ||| ((nI 1) <<< (x4 &&& 31))) := ⟨_, rfl⟩
        rw [← ey3_7]
        replace hw := hw _ ey3_7
        refine gh_istore_n (L' := [some (vR 6 t0), some (vI x1), some (vI x2), some (vI y3_7), some (vI x4)]) dc_X5_bitsBetween_35 (by decide) rfl rfl ?_
        obtain ⟨y4_8, ey4_8⟩ : ∃ z, z = (x4 + (nI 1)) := ⟨_, rfl⟩
        replace hw := hw _ ey4_8
        refine gh_iinc (v := y4_8) (L' := [some (vR 6 t0), some (vI x1), some (vI x2), some (vI y3_7), some (vI y4_8)]) dc_X5_bitsBetween_36 rfl ((congrArg (fun z => x4 + z) gc_1).trans ey4_8.symm) (by decide) rfl rfl ?_
        refine gh_goto (tgt := 5) dc_X5_bitsBetween_39 rfl ?_
        refine gh_drop (pc' := 0) [some (vR 6 t0), some (vI x1), some (vI x2), some (vI y3_7), some (vI y4_8)] ⟨rfl, rfl, rfl, rfl, rfl, trivial⟩ ?_
        exact ih _ _ _ _ _ hw
theorem wk_X5_bitsBetween {t0 : Nat} (ht0 : t0 < 29) (Q : Int32 → gh_M → Prop) (a0 : Int32) (a1 : Int32) (M : gh_M) (hw : wp_X5_bitsBetween t0 a0 a1 M Q) : gh_Calls 2 mi_X5_bitsBetween [vR 6 t0, vI a0, vI a1] M (gh_Qi Q) := by
  refine gh_of (by decide) rfl 2 rfl (L0 := [some (vR 6 t0), some (vI a0), some (vI a1), none, none]) rfl (fun wd x hE => ?_)
  unfold wp_X5_bitsBetween at hw
  refine gh_iconst (v := (nI 0)) dc_X5_bitsBetween_0 gc_0 ?_
  refine gh_istore_n (L' := [some (vR 6 t0), some (vI a0), some (vI a1), some (vI (nI 0)), none]) dc_X5_bitsBetween_1 (by decide) rfl rfl ?_
  refine gh_iconst (v := (nI 0)) dc_X5_bitsBetween_2 gc_0 ?_
  refine gh_istore (L' := [some (vR 6 t0), some (vI a0), some (vI a1), some (vI (nI 0)), some (vI (nI 0))]) dc_X5_bitsBetween_3 (by decide) rfl rfl ?_
  refine gh_drop (pc' := 0) [some (vR 6 t0), some (vI a0), some (vI a1), some (vI (nI 0)), some (vI (nI 0))] ⟨rfl, rfl, rfl, rfl, rfl, trivial⟩ ?_
  obtain ⟨k, hw⟩ := hw
  exact lk_X5_bitsBetween_5 ht0 hE  k _ _ _ _ _ hw
theorem wk_X5_bitsOut {t0 : Nat} (ht0 : t0 < 29) (Q : Int32 → gh_M → Prop)  (M : gh_M) (hw : wp_X5_bitsOut t0  M Q) : gh_Calls 3 mi_X5_bitsOut [vR 6 t0] M (gh_Qi Q) := by
  refine gh_of (by decide) rfl 0 rfl (L0 := [some (vR 6 t0)]) rfl (fun wd x hE => ?_)
  unfold wp_X5_bitsOut at hw
  refine gh_aload_n dc_X5_bitsOut_0 rfl ?_
  refine gh_bipush (v := (nI 21)) dc_X5_bitsOut_1 gb_21 ?_
  refine gh_bipush (v := (nI 21)) dc_X5_bitsOut_3 gb_21 ?_
  refine gh_callVi (mi' := mi_X5_bitsBetween) (as := [vI (nI 21), vI (nI 21)]) (S := []) (k := 6) (t := t0) dc_X5_bitsOut_5 ml_RX5_110 ok_X5_bitsBetween rfl rfl (by decide) (Nat.le_of_ble_eq_true rfl) (by decide) ht0 rfl rfl (wk_X5_bitsBetween ht0 _ _ _ _ hw) (fun r1 M2 hw => ?_)
  exact gh_iret dc_X5_bitsOut_8 hE rfl hw
theorem wk_X0_keep {t0 : Nat} (ht0 : t0 < 29) (Q : gh_M → Prop)  (M : gh_M) (hw : wp_X0_keep t0  M Q) : gh_Calls 2 mi_X0_keep [vR 21 0, vR 6 t0] M (gh_Qv Q) := by
  refine gh_of (by decide) rfl 0 rfl (L0 := [some (vR 21 0), some (vR 6 t0)]) rfl (fun wd x hE => ?_)
  unfold wp_X0_keep at hw
  refine gh_aload_n dc_X0_keep_0 rfl ?_
  refine gh_getR (k := 21) (t := 0) dc_X0_keep_1 fl_RX0_11 (by decide) (by decide) rfl rfl ?_
  refine gh_aload_n dc_X0_keep_4 rfl ?_
  refine gh_getI (k := 21) (t := 0) dc_X0_keep_5 fl_RX0_18 (by decide) (by decide) rfl rfl ?_
  obtain ⟨h1, hw⟩ := hw
  refine gh_aald (k := 22) (t := 0) (a := 1) dc_X0_keep_8 rfl (by decide) (by decide) (by decide) h1 rfl ?_
  have bj2 := gh_cl h1
  obtain ⟨j2, ej2⟩ : ∃ z, (M 21 0 1).toNatClampNeg = z := ⟨_, rfl⟩
  rw [ej2]
  rw [ej2] at bj2
  replace hw := hw _ bj2 ej2
  refine gh_aload_n dc_X0_keep_9 rfl ?_
  refine gh_callVv (mi' := mi_X5_copyFrom) (as := [vR 6 t0]) (S := []) (k := 6) (t := (2 + j2)) dc_X0_keep_10 ml_RX0_22 ok_X5_copyFrom rfl rfl (by decide) (Nat.le_of_ble_eq_true rfl) (by decide) (show (2 + j2) < 29 by omega) rfl rfl (wk_X5_copyFrom (show (2 + j2) < 29 by omega) ht0 _ _ hw) (fun M4 hw => ?_)
  refine gh_aload_n dc_X0_keep_13 rfl ?_
  refine gh_aload_n dc_X0_keep_14 rfl ?_
  refine gh_getI (k := 21) (t := 0) dc_X0_keep_15 fl_RX0_18 (by decide) (by decide) rfl rfl ?_
  refine gh_iconst (v := (nI 1)) dc_X0_keep_18 gc_1 ?_
  refine gh_iadd dc_X0_keep_19 ?_
  refine gh_bipush (v := (nI 24)) dc_X0_keep_20 gb_24 ?_
  obtain ⟨h5, hw⟩ := hw
  refine gh_irem dc_X0_keep_22 h5 ?_
  refine gh_put (k := 21) (t := 0) dc_X0_keep_23 fl_RX0_18 (by decide) (by decide) rfl rfl (fun _ h => by cases h; rfl) rfl rfl ?_
  obtain ⟨M6, eM6⟩ : ∃ z, z = (gh_st M4 21 0 1 (((M4 21 0 1) + (nI 1)) - ((M4 21 0 1) + (nI 1)) / (nI 24) * (nI 24))) := ⟨_, rfl⟩
  rw [← eM6]
  replace hw := hw _ eM6
  refine gh_aload_n dc_X0_keep_26 rfl ?_
  refine gh_aload_n dc_X0_keep_27 rfl ?_
  refine gh_getI (k := 21) (t := 0) dc_X0_keep_28 fl_RX0_26 (by decide) (by decide) rfl rfl ?_
  refine gh_iconst (v := (nI 1)) dc_X0_keep_31 gc_1 ?_
  refine gh_iadd dc_X0_keep_32 ?_
  refine gh_bipush (v := (nI 24)) dc_X0_keep_33 gb_24 ?_
  refine gh_min (S := [vR 21 0]) dc_X0_keep_35 tw_424 tw_425 tw_11 tw_426 (by decide) (Nat.le_of_ble_eq_true rfl) ?_
  refine gh_put (k := 21) (t := 0) dc_X0_keep_38 fl_RX0_26 (by decide) (by decide) rfl rfl (fun _ h => by cases h; rfl) rfl rfl ?_
  obtain ⟨M7, eM7⟩ : ∃ z, z = (gh_st M6 21 0 2 (if (nI 24) < ((M6 21 0 2) + (nI 1)) then (nI 24) else ((M6 21 0 2) + (nI 1)))) := ⟨_, rfl⟩
  rw [← eM7]
  replace hw := hw _ eM7
  exact gh_vret dc_X0_keep_41 hE rfl hw
theorem wk_X6_beginAct   (Q : gh_M → Prop)  (M : gh_M) (hw : wp_X6_beginAct   M Q) : gh_Calls 3 mi_X6_beginAct [vR 0 0] M (gh_Qv Q) := by
  refine gh_of (by decide) rfl 0 rfl (L0 := [some (vR 0 0)]) rfl (fun wd x hE => ?_)
  unfold wp_X6_beginAct at hw
  refine gh_aload_n dc_X6_beginAct_0 rfl ?_
  refine gh_getR (k := 0) (t := 0) dc_X6_beginAct_1 fl_RX6_35 (by decide) (by decide) rfl rfl ?_
  refine gh_aload_n dc_X6_beginAct_4 rfl ?_
  refine gh_getR (k := 0) (t := 0) dc_X6_beginAct_5 fl_RX6_25 (by decide) (by decide) rfl rfl ?_
  refine gh_callVv (mi' := mi_X0_keep) (as := [vR 6 0]) (S := []) (k := 21) (t := 0) dc_X6_beginAct_8 ml_RX6_338 ok_X0_keep rfl rfl (by decide) (Nat.le_of_ble_eq_true rfl) (by decide) (by decide) rfl rfl (wk_X0_keep (by decide) _ _ hw) (fun M2 hw => ?_)
  refine gh_aload_n dc_X6_beginAct_11 rfl ?_
  refine gh_getR (k := 0) (t := 0) dc_X6_beginAct_12 fl_RX6_46 (by decide) (by decide) rfl rfl ?_
  refine gh_callVv (mi' := mi_X2_forget) (as := []) (S := []) (k := 24) (t := 0) dc_X6_beginAct_15 ml_RX6_139 ok_X2_forget rfl rfl (by decide) (Nat.le_of_ble_eq_true rfl) (by decide) (by decide) rfl rfl (wk_X2_forget _ _ hw) (fun M4 hw => ?_)
  exact gh_vret dc_X6_beginAct_18 hE rfl hw
theorem wk_X5_fright {t0 : Nat} (ht0 : t0 < 29) (Q : Int32 → gh_M → Prop) (a0 : Int32) (a1 : Int32) (M : gh_M) (hw : wp_X5_fright t0 a0 a1 M Q) : gh_Calls 1 mi_X5_fright [vR 6 t0, vI a0, vI a1] M (gh_Qi Q) := by
  refine gh_of (by decide) rfl 1 rfl (L0 := [some (vR 6 t0), some (vI a0), some (vI a1), none]) rfl (fun wd x hE => ?_)
  unfold wp_X5_fright at hw
  refine gh_aload_n dc_X5_fright_0 rfl ?_
  refine gh_getR (k := 6) (t := t0) dc_X5_fright_1 fl_RX5_18 (by decide) ht0 rfl rfl ?_
  refine gh_iload_n dc_X5_fright_4 rfl ?_
  obtain ⟨h1, hw⟩ := hw
  refine gh_iald (k := 9) (t := t0) dc_X5_fright_5 rfl (by decide) ht0 h1 ?_
  obtain ⟨y3_2, ey3_2⟩ : ∃ z, z = (M 9 t0 a0.toNatClampNeg) := ⟨_, rfl⟩
  rw [← ey3_2]
  replace hw := hw _ ey3_2
  refine gh_istore_n (L' := [some (vR 6 t0), some (vI a0), some (vI a1), some (vI y3_2)]) dc_X5_fright_6 (by decide) rfl rfl ?_
  refine gh_aload_n dc_X5_fright_7 rfl ?_
  refine gh_getR (k := 6) (t := t0) dc_X5_fright_8 fl_RX5_9 (by decide) ht0 rfl rfl ?_
  refine gh_iload_n dc_X5_fright_11 rfl ?_
  obtain ⟨h3, hw⟩ := hw
  refine gh_iald (k := 7) (t := t0) dc_X5_fright_12 rfl (by decide) ht0 h3 ?_
  refine (Decidable.em ((M 7 t0 a0.toNatClampNeg) = (nI 1))).elim (fun c4 => ?_) (fun c4 => ?_)
  · replace hw := hw.1 c4
    refine gh_tabIn (v := (nI 1)) (tgt := 48) dc_X5_fright_13 c4 (by decide) (by decide) rfl rfl ?_
    refine gh_iload_n dc_X5_fright_48 rfl ?_
    exact gh_iret dc_X5_fright_49 hE rfl hw
  · replace hw := hw.2 c4
    refine (Decidable.em ((M 7 t0 a0.toNatClampNeg) = (nI 2))).elim (fun c5 => ?_) (fun c5 => ?_)
    · replace hw := hw.1 c5
      refine gh_tabIn (v := (nI 2)) (tgt := 50) dc_X5_fright_13 c5 (by decide) (by decide) rfl rfl ?_
      refine gh_aload_n dc_X5_fright_50 rfl ?_
      refine gh_getR (k := 6) (t := t0) dc_X5_fright_51 fl_RX5_25 (by decide) ht0 rfl rfl ?_
      refine gh_iload_n dc_X5_fright_54 rfl ?_
      obtain ⟨h6, hw⟩ := hw
      refine gh_iald (k := 11) (t := t0) dc_X5_fright_55 rfl (by decide) ht0 h6 ?_
      refine gh_iconst (v := (nI 2)) dc_X5_fright_56 gc_2 ?_
      obtain ⟨h7, hw⟩ := hw
      refine gh_irem dc_X5_fright_57 h7 ?_
      refine gh_if_ne (tgt := 65) dc_X5_fright_58 rfl (fun c8 => ?_) (fun c8 => ?_)
      · replace hw := hw.1 c8
        refine gh_iconst (v := (nI 0)) dc_X5_fright_65 gc_0 ?_
        exact gh_iret dc_X5_fright_66 hE rfl hw
      · replace hw := hw.2 c8
        refine gh_iload_n dc_X5_fright_61 rfl ?_
        refine gh_goto (tgt := 66) dc_X5_fright_62 rfl ?_
        exact gh_iret dc_X5_fright_66 hE rfl hw
    · replace hw := hw.2 c5
      refine (Decidable.em ((M 7 t0 a0.toNatClampNeg) = (nI 3))).elim (fun c9 => ?_) (fun c9 => ?_)
      · replace hw := hw.1 c9
        refine gh_tabIn (v := (nI 3)) (tgt := 67) dc_X5_fright_13 c9 (by decide) (by decide) rfl rfl ?_
        refine gh_aload_n dc_X5_fright_67 rfl ?_
        refine gh_getI (k := 6) (t := t0) dc_X5_fright_68 fl_RX5_68 (by decide) ht0 rfl rfl ?_
        refine gh_iconst (v := (nI 1)) dc_X5_fright_71 gc_1 ?_
        refine gh_icmp_ne (tgt := 81) dc_X5_fright_72 rfl (fun c10 => ?_) (fun c10 => ?_)
        · replace hw := hw.1 c10
          refine gh_iload_n dc_X5_fright_81 rfl ?_
          exact gh_iret dc_X5_fright_82 hE rfl hw
        · replace hw := hw.2 c10
          refine gh_iconst (v := (nI 2)) dc_X5_fright_75 gc_2 ?_
          refine gh_iload_n dc_X5_fright_76 rfl ?_
          refine gh_imul dc_X5_fright_77 ?_
          refine gh_goto (tgt := 82) dc_X5_fright_78 rfl ?_
          exact gh_iret dc_X5_fright_82 hE rfl hw
      · replace hw := hw.2 c9
        refine (Decidable.em ((M 7 t0 a0.toNatClampNeg) = (nI 4))).elim (fun c11 => ?_) (fun c11 => ?_)
        · replace hw := hw.1 c11
          refine gh_tabIn (v := (nI 4)) (tgt := 83) dc_X5_fright_13 c11 (by decide) (by decide) rfl rfl ?_
          refine gh_iload_n dc_X5_fright_83 rfl ?_
          refine gh_aload_n dc_X5_fright_84 rfl ?_
          refine gh_getR (k := 6) (t := t0) dc_X5_fright_85 fl_RX5_28 (by decide) ht0 rfl rfl ?_
          refine gh_iload_n dc_X5_fright_88 rfl ?_
          obtain ⟨h12, hw⟩ := hw
          refine gh_iald (k := 12) (t := t0) dc_X5_fright_89 rfl (by decide) ht0 h12 ?_
          refine gh_imul dc_X5_fright_90 ?_
          exact gh_iret dc_X5_fright_91 hE rfl hw
        · replace hw := hw.2 c11
          refine (Decidable.em ((M 7 t0 a0.toNatClampNeg) = (nI 5))).elim (fun c13 => ?_) (fun c13 => ?_)
          · replace hw := hw.1 c13
            refine gh_tabIn (v := (nI 5)) (tgt := 92) dc_X5_fright_13 c13 (by decide) (by decide) rfl rfl ?_
            refine gh_aload_n dc_X5_fright_92 rfl ?_
            refine gh_getI (k := 6) (t := t0) dc_X5_fright_93 fl_RX5_65 (by decide) ht0 rfl rfl ?_
            refine gh_iconst (v := (nI 2)) dc_X5_fright_96 gc_2 ?_
            obtain ⟨h14, hw⟩ := hw
            refine gh_irem dc_X5_fright_97 h14 ?_
            refine gh_iconst (v := (nI 1)) dc_X5_fright_98 gc_1 ?_
            refine gh_icmp_ne (tgt := 113) dc_X5_fright_99 rfl (fun c15 => ?_) (fun c15 => ?_)
            · replace hw := hw.1 c15
              refine gh_iconst (v := (nI 0)) dc_X5_fright_113 gc_0 ?_
              exact gh_iret dc_X5_fright_114 hE rfl hw
            · replace hw := hw.2 c15
              refine gh_iload_n dc_X5_fright_102 rfl ?_
              refine gh_aload_n dc_X5_fright_103 rfl ?_
              refine gh_getR (k := 6) (t := t0) dc_X5_fright_104 fl_RX5_28 (by decide) ht0 rfl rfl ?_
              refine gh_iload_n dc_X5_fright_107 rfl ?_
              obtain ⟨h16, hw⟩ := hw
              refine gh_iald (k := 12) (t := t0) dc_X5_fright_108 rfl (by decide) ht0 h16 ?_
              refine gh_imul dc_X5_fright_109 ?_
              refine gh_goto (tgt := 114) dc_X5_fright_110 rfl ?_
              exact gh_iret dc_X5_fright_114 hE rfl hw
          · replace hw := hw.2 c13
            have q0 := lv_neT c4 (a := 1) (by decide)
            have q1 := lv_neT c5 (a := 2) (by decide)
            have q2 := lv_neT c9 (a := 3) (by decide)
            have q3 := lv_neT c11 (a := 4) (by decide)
            have q4 := lv_neT c13 (a := 5) (by decide)
            refine gh_tabOut (tgt := 115) dc_X5_fright_13 (by omega) rfl ?_
            refine gh_iconst (v := (nI 0)) dc_X5_fright_115 gc_0 ?_
            exact gh_iret dc_X5_fright_116 hE rfl hw
theorem lk_X5_comeInto_16 {wd : gh_Wd} {x : gh_X} {Q : gh_M → Prop} {t0 : Nat} (ht0 : t0 < 29) (hE : gh_E wd (gh_Qv Q) x)   : ∀ (n : Nat) (x1 : Int32) (x2 : Int32) (x3 : Int32) (M : gh_M), wl_X5_comeInto_16 t0 Q n x1 x2 x3 M → gh_J mi_X5_comeInto 2 wd x M 16 [some (vR 6 t0), some (vI x1), some (vI x2), some (vI x3)] [] := by
  intro n
  induction n with
  | zero => intro x1 x2 x3 M hw; exact hw.elim
  | succ n ih =>
    intro x1 x2 x3 M hw
    unfold wl_X5_comeInto_16 at hw
    refine gh_iload_n dc_X5_comeInto_16 rfl ?_
    refine gh_aload_n dc_X5_comeInto_17 rfl ?_
    refine gh_getI (k := 6) (t := t0) dc_X5_comeInto_18 fl_RX5_59 (by decide) ht0 rfl rfl ?_
    refine gh_icmp_ge (tgt := 84) dc_X5_comeInto_21 rfl (fun c5 => ?_) (fun c5 => ?_)
    · replace hw := hw.1 c5
      refine gh_aload_n dc_X5_comeInto_84 rfl ?_
      refine gh_getR (k := 6) (t := t0) dc_X5_comeInto_85 fl_RX5_40 (by decide) ht0 rfl rfl ?_
      refine gh_iload_n dc_X5_comeInto_88 rfl ?_
      obtain ⟨h6, hw⟩ := hw
      refine gh_iald (k := 16) (t := t0) dc_X5_comeInto_89 rfl (by decide) ht0 h6 ?_
      refine gh_aload_n dc_X5_comeInto_90 rfl ?_
      refine gh_getR (k := 6) (t := t0) dc_X5_comeInto_91 fl_RX5_31 (by decide) ht0 rfl rfl ?_
      refine gh_iload_n dc_X5_comeInto_94 rfl ?_
      obtain ⟨h7, hw⟩ := hw
      refine gh_iald (k := 13) (t := t0) dc_X5_comeInto_95 rfl (by decide) ht0 h7 ?_
      refine gh_icmp_lt (tgt := 123) dc_X5_comeInto_96 rfl (fun c8 => ?_) (fun c8 => ?_)
      · replace hw := hw.1 c8
        exact gh_vret dc_X5_comeInto_123 hE rfl hw
      · replace hw := hw.2 c8
        refine gh_aload_n dc_X5_comeInto_99 rfl ?_
        refine gh_getR (k := 6) (t := t0) dc_X5_comeInto_100 fl_RX5_43 (by decide) ht0 rfl rfl ?_
        refine gh_iload_n dc_X5_comeInto_103 rfl ?_
        refine gh_dup2 dc_X5_comeInto_104 ?_
        obtain ⟨h9, hw⟩ := hw
        refine gh_iald (k := 17) (t := t0) dc_X5_comeInto_105 rfl (by decide) ht0 h9 ?_
        refine gh_iconst (v := (nI 1)) dc_X5_comeInto_106 gc_1 ?_
        refine gh_iadd dc_X5_comeInto_107 ?_
        obtain ⟨h10, hw⟩ := hw
        refine gh_iast (k := 17) (t := t0) dc_X5_comeInto_108 rfl (by decide) ht0 h10 ?_
        obtain ⟨M11, eM11⟩ : ∃ z, z = (gh_st M 17 t0 x1.toNatClampNeg ((M 17 t0 x1.toNatClampNeg) + (nI 1))) := ⟨_, rfl⟩
        rw [← eM11]
        replace hw := hw _ eM11
        refine gh_aload_n dc_X5_comeInto_109 rfl ?_
        refine gh_getR (k := 6) (t := t0) dc_X5_comeInto_110 fl_RX5_40 (by decide) ht0 rfl rfl ?_
        refine gh_iload_n dc_X5_comeInto_113 rfl ?_
        refine gh_iconst (v := (nI 0)) dc_X5_comeInto_114 gc_0 ?_
        obtain ⟨h12, hw⟩ := hw
        refine gh_iast (k := 16) (t := t0) dc_X5_comeInto_115 rfl (by decide) ht0 h12 ?_
        obtain ⟨M13, eM13⟩ : ∃ z, z = (gh_st M11 16 t0 x1.toNatClampNeg (nI 0)) := ⟨_, rfl⟩
        rw [← eM13]
        replace hw := hw _ eM13
        refine gh_aload_n dc_X5_comeInto_116 rfl ?_
        refine gh_getR (k := 6) (t := t0) dc_X5_comeInto_117 fl_RX5_46 (by decide) ht0 rfl rfl ?_
        refine gh_iload_n dc_X5_comeInto_120 rfl ?_
        refine gh_iconst (v := (nI 1)) dc_X5_comeInto_121 gc_1 ?_
        obtain ⟨h14, hw⟩ := hw
        refine gh_zast (k := 18) (t := t0) dc_X5_comeInto_122 rfl (by decide) ht0 h14 ?_
        obtain ⟨M15, eM15⟩ : ∃ z, z = (gh_st M13 18 t0 x1.toNatClampNeg ((nI 1) &&& 1)) := ⟨_, rfl⟩
        rw [← eM15]
        replace hw := hw _ eM15
        exact gh_vret dc_X5_comeInto_123 hE rfl hw
    · replace hw := hw.2 c5
      refine gh_aload_n dc_X5_comeInto_24 rfl ?_
      refine gh_getR (k := 6) (t := t0) dc_X5_comeInto_25 fl_RX5_21 (by decide) ht0 rfl rfl ?_
      refine gh_iload_n dc_X5_comeInto_28 rfl ?_
      obtain ⟨h16, hw⟩ := hw
      refine gh_zald (k := 10) (t := t0) dc_X5_comeInto_29 rfl (by decide) ht0 h16 ?_
      refine gh_if_eq (tgt := 78) dc_X5_comeInto_30 rfl (fun c17 => ?_) (fun c17 => ?_)
      · replace hw := hw.1 c17
        obtain ⟨y3_18, ey3_18⟩ : ∃ z, z = (x3 + (nI 1)) := ⟨_, rfl⟩
        replace hw := hw _ ey3_18
        refine gh_iinc (v := y3_18) (L' := [some (vR 6 t0), some (vI x1), some (vI x2), some (vI y3_18)]) dc_X5_comeInto_78 rfl ((congrArg (fun z => x3 + z) gc_1).trans ey3_18.symm) (by decide) rfl rfl ?_
        refine gh_goto (tgt := 16) dc_X5_comeInto_81 rfl ?_
        refine gh_drop (pc' := 0) [some (vR 6 t0), some (vI x1), some (vI x2), some (vI y3_18)] ⟨rfl, rfl, rfl, rfl, trivial⟩ ?_
        exact ih _ _ _ _ hw
      · replace hw := hw.2 c17
        refine gh_aload_n dc_X5_comeInto_33 rfl ?_
        refine gh_getR (k := 6) (t := t0) dc_X5_comeInto_34 fl_RX5_15 (by decide) ht0 rfl rfl ?_
        refine gh_iload_n dc_X5_comeInto_37 rfl ?_
        obtain ⟨h19, hw⟩ := hw
        refine gh_iald (k := 8) (t := t0) dc_X5_comeInto_38 rfl (by decide) ht0 h19 ?_
        refine gh_iload_n dc_X5_comeInto_39 rfl ?_
        refine gh_icmp_ne (tgt := 78) dc_X5_comeInto_40 rfl (fun c20 => ?_) (fun c20 => ?_)
        · replace hw := hw.1 c20
          obtain ⟨y3_21, ey3_21⟩ : ∃ z, z = (x3 + (nI 1)) := ⟨_, rfl⟩
          replace hw := hw _ ey3_21
          refine gh_iinc (v := y3_21) (L' := [some (vR 6 t0), some (vI x1), some (vI x2), some (vI y3_21)]) dc_X5_comeInto_78 rfl ((congrArg (fun z => x3 + z) gc_1).trans ey3_21.symm) (by decide) rfl rfl ?_
          refine gh_goto (tgt := 16) dc_X5_comeInto_81 rfl ?_
          refine gh_drop (pc' := 0) [some (vR 6 t0), some (vI x1), some (vI x2), some (vI y3_21)] ⟨rfl, rfl, rfl, rfl, trivial⟩ ?_
          exact ih _ _ _ _ hw
        · replace hw := hw.2 c20
          refine gh_aload_n dc_X5_comeInto_43 rfl ?_
          refine gh_getR (k := 6) (t := t0) dc_X5_comeInto_44 fl_RX5_25 (by decide) ht0 rfl rfl ?_
          refine gh_iload_n dc_X5_comeInto_47 rfl ?_
          refine gh_aload_n dc_X5_comeInto_48 rfl ?_
          refine gh_getR (k := 6) (t := t0) dc_X5_comeInto_49 fl_RX5_25 (by decide) ht0 rfl rfl ?_
          refine gh_iload_n dc_X5_comeInto_52 rfl ?_
          obtain ⟨h22, hw⟩ := hw
          refine gh_iald (k := 11) (t := t0) dc_X5_comeInto_53 rfl (by decide) ht0 h22 ?_
          refine gh_iconst (v := (nI 1)) dc_X5_comeInto_54 gc_1 ?_
          refine gh_iadd dc_X5_comeInto_55 ?_
          refine gh_sipush (v := (nI 999)) dc_X5_comeInto_56 gs_999 ?_
          refine gh_min (S := [vI x3, vR 11 t0]) dc_X5_comeInto_59 tw_439 tw_425 tw_11 tw_426 (by decide) (Nat.le_of_ble_eq_true rfl) ?_
          obtain ⟨h23, hw⟩ := hw
          refine gh_iast (k := 11) (t := t0) dc_X5_comeInto_62 rfl (by decide) ht0 h23 ?_
          obtain ⟨M24, eM24⟩ : ∃ z, z = (gh_st M 11 t0 x3.toNatClampNeg (if (nI 999) < ((M 11 t0 x3.toNatClampNeg) + (nI 1)) then (nI 999) else ((M 11 t0 x3.toNatClampNeg) + (nI 1)))) := ⟨_, rfl⟩
          rw [← eM24]
          replace hw := hw _ eM24
          refine gh_aload_n dc_X5_comeInto_63 rfl ?_
          refine gh_getR (k := 6) (t := t0) dc_X5_comeInto_64 fl_RX5_40 (by decide) ht0 rfl rfl ?_
          refine gh_iload_n dc_X5_comeInto_67 rfl ?_
          refine gh_dup2 dc_X5_comeInto_68 ?_
          obtain ⟨h25, hw⟩ := hw
          refine gh_iald (k := 16) (t := t0) dc_X5_comeInto_69 rfl (by decide) ht0 h25 ?_
          refine gh_aload_n dc_X5_comeInto_70 rfl ?_
          refine gh_iload_n dc_X5_comeInto_71 rfl ?_
          refine gh_iload_n dc_X5_comeInto_72 rfl ?_
          refine gh_callVi (mi' := mi_X5_fright) (as := [vI x3, vI x1]) (S := [vI (M24 16 t0 x1.toNatClampNeg), vI x1, vR 16 t0]) (k := 6) (t := t0) dc_X5_comeInto_73 ml_RX5_107 ok_X5_fright rfl rfl (by decide) (Nat.le_of_ble_eq_true rfl) (by decide) ht0 rfl rfl (wk_X5_fright ht0 _ _ _ _ hw) (fun r26 M27 hw => ?_)
          refine gh_iadd dc_X5_comeInto_76 ?_
          obtain ⟨h28, hw⟩ := hw
          refine gh_iast (k := 16) (t := t0) dc_X5_comeInto_77 rfl (by decide) ht0 h28 ?_
          obtain ⟨M29, eM29⟩ : ∃ z, z = (gh_st M27 16 t0 x1.toNatClampNeg ((M24 16 t0 x1.toNatClampNeg) + r26)) := ⟨_, rfl⟩
          rw [← eM29]
          replace hw := hw _ eM29
          obtain ⟨y3_30, ey3_30⟩ : ∃ z, z = (x3 + (nI 1)) := ⟨_, rfl⟩
          replace hw := hw _ ey3_30
          refine gh_iinc (v := y3_30) (L' := [some (vR 6 t0), some (vI x1), some (vI x2), some (vI y3_30)]) dc_X5_comeInto_78 rfl ((congrArg (fun z => x3 + z) gc_1).trans ey3_30.symm) (by decide) rfl rfl ?_
          refine gh_goto (tgt := 16) dc_X5_comeInto_81 rfl ?_
          refine gh_drop (pc' := 0) [some (vR 6 t0), some (vI x1), some (vI x2), some (vI y3_30)] ⟨rfl, rfl, rfl, rfl, trivial⟩ ?_
          exact ih _ _ _ _ hw
theorem wk_X5_comeInto {t0 : Nat} (ht0 : t0 < 29) (Q : gh_M → Prop) (a0 : Int32) (a1 : Int32) (M : gh_M) (hw : wp_X5_comeInto t0 a0 a1 M Q) : gh_Calls 2 mi_X5_comeInto [vR 6 t0, vI a0, vI a1] M (gh_Qv Q) := by
  refine gh_of (by decide) rfl 1 rfl (L0 := [some (vR 6 t0), some (vI a0), some (vI a1), none]) rfl (fun wd x hE => ?_)
  unfold wp_X5_comeInto at hw
  refine gh_aload_n dc_X5_comeInto_0 rfl ?_
  refine gh_getR (k := 6) (t := t0) dc_X5_comeInto_1 fl_RX5_37 (by decide) ht0 rfl rfl ?_
  refine gh_iload_n dc_X5_comeInto_4 rfl ?_
  refine gh_iload_n dc_X5_comeInto_5 rfl ?_
  obtain ⟨h1, hw⟩ := hw
  refine gh_iast (k := 15) (t := t0) dc_X5_comeInto_6 rfl (by decide) ht0 h1 ?_
  obtain ⟨M2, eM2⟩ : ∃ z, z = (gh_st M 15 t0 a0.toNatClampNeg a1) := ⟨_, rfl⟩
  rw [← eM2]
  replace hw := hw _ eM2
  refine gh_aload_n dc_X5_comeInto_7 rfl ?_
  refine gh_getR (k := 6) (t := t0) dc_X5_comeInto_8 fl_RX5_52 (by decide) ht0 rfl rfl ?_
  refine gh_iload_n dc_X5_comeInto_11 rfl ?_
  refine gh_iload_n dc_X5_comeInto_12 rfl ?_
  obtain ⟨h3, hw⟩ := hw
  refine gh_iast (k := 20) (t := t0) dc_X5_comeInto_13 rfl (by decide) ht0 h3 ?_
  obtain ⟨M4, eM4⟩ : ∃ z, z = (gh_st M2 20 t0 a1.toNatClampNeg a0) := ⟨_, rfl⟩
  rw [← eM4]
  replace hw := hw _ eM4
  refine gh_iconst (v := (nI 0)) dc_X5_comeInto_14 gc_0 ?_
  refine gh_istore_n (L' := [some (vR 6 t0), some (vI a0), some (vI a1), some (vI (nI 0))]) dc_X5_comeInto_15 (by decide) rfl rfl ?_
  refine gh_drop (pc' := 0) [some (vR 6 t0), some (vI a0), some (vI a1), some (vI (nI 0))] ⟨rfl, rfl, rfl, rfl, trivial⟩ ?_
  obtain ⟨k, hw⟩ := hw
  exact lk_X5_comeInto_16 ht0 hE  k _ _ _ _ hw
theorem lk_X5_letIn_2 {wd : gh_Wd} {x : gh_X} {Q : gh_M → Prop} {t0 : Nat} (ht0 : t0 < 29) (hE : gh_E wd (gh_Qv Q) x)   : ∀ (n : Nat) (x1 : Int32) (M : gh_M), wl_X5_letIn_2 t0 Q n x1 M → gh_J mi_X5_letIn 3 wd x M 2 [some (vR 6 t0), some (vI x1), none] [] := by
  intro n
  induction n with
  | zero => intro x1 M hw; exact hw.elim
  | succ n ih =>
    intro x1 M hw
    unfold wl_X5_letIn_2 at hw
    refine gh_iload_n dc_X5_letIn_2 rfl ?_
    refine gh_aload_n dc_X5_letIn_3 rfl ?_
    refine gh_getI (k := 6) (t := t0) dc_X5_letIn_4 fl_RX5_62 (by decide) ht0 rfl rfl ?_
    refine gh_icmp_ge (tgt := 51) dc_X5_letIn_7 rfl (fun c1 => ?_) (fun c1 => ?_)
    · replace hw := hw.1 c1
      exact gh_vret dc_X5_letIn_51 hE rfl hw
    · replace hw := hw.2 c1
      refine gh_aload_n dc_X5_letIn_10 rfl ?_
      refine gh_getR (k := 6) (t := t0) dc_X5_letIn_11 fl_RX5_49 (by decide) ht0 rfl rfl ?_
      refine gh_iload_n dc_X5_letIn_14 rfl ?_
      obtain ⟨h2, hw⟩ := hw
      refine gh_iald (k := 19) (t := t0) dc_X5_letIn_15 rfl (by decide) ht0 h2 ?_
      obtain ⟨y2_3, ey2_3⟩ : ∃ z, z = (M 19 t0 x1.toNatClampNeg) := ⟨_, rfl⟩
      rw [← ey2_3]
      replace hw := hw _ ey2_3
      refine gh_istore_n (L' := [some (vR 6 t0), some (vI x1), some (vI y2_3)]) dc_X5_letIn_16 (by decide) rfl rfl ?_
      refine gh_aload_n dc_X5_letIn_17 rfl ?_
      refine gh_getR (k := 6) (t := t0) dc_X5_letIn_18 fl_RX5_37 (by decide) ht0 rfl rfl ?_
      refine gh_iload_n dc_X5_letIn_21 rfl ?_
      obtain ⟨h4, hw⟩ := hw
      refine gh_iald (k := 15) (t := t0) dc_X5_letIn_22 rfl (by decide) ht0 h4 ?_
      refine gh_bipush (v := (nI 20)) dc_X5_letIn_23 gb_20 ?_
      refine gh_icmp_ne (tgt := 45) dc_X5_letIn_25 rfl (fun c5 => ?_) (fun c5 => ?_)
      · replace hw := hw.1 c5
        obtain ⟨y1_6, ey1_6⟩ : ∃ z, z = (x1 + (nI 1)) := ⟨_, rfl⟩
        replace hw := hw _ ey1_6
        refine gh_iinc (v := y1_6) (L' := [some (vR 6 t0), some (vI y1_6), some (vI y2_3)]) dc_X5_letIn_45 rfl ((congrArg (fun z => x1 + z) gc_1).trans ey1_6.symm) (by decide) rfl rfl ?_
        refine gh_goto (tgt := 2) dc_X5_letIn_48 rfl ?_
        refine gh_drop (pc' := 0) [some (vR 6 t0), some (vI y1_6), none] ⟨rfl, rfl, trivial⟩ ?_
        exact ih _ _ hw
      · replace hw := hw.2 c5
        refine gh_aload_n dc_X5_letIn_28 rfl ?_
        refine gh_dupR dc_X5_letIn_29 ?_
        refine gh_getI (k := 6) (t := t0) dc_X5_letIn_30 fl_RX5_68 (by decide) ht0 rfl rfl ?_
        refine gh_iconst (v := (nI 1)) dc_X5_letIn_33 gc_1 ?_
        refine gh_iadd dc_X5_letIn_34 ?_
        refine gh_put (k := 6) (t := t0) dc_X5_letIn_35 fl_RX5_68 (by decide) ht0 rfl rfl (fun _ h => by cases h; rfl) rfl rfl ?_
        obtain ⟨M7, eM7⟩ : ∃ z, z = (gh_st M 6 t0 4 ((M 6 t0 4) + (nI 1))) := ⟨_, rfl⟩
        rw [← eM7]
        replace hw := hw _ eM7
        refine gh_aload_n dc_X5_letIn_38 rfl ?_
        refine gh_iload_n dc_X5_letIn_39 rfl ?_
        refine gh_iconst (v := (nI 0)) dc_X5_letIn_40 gc_0 ?_
        refine gh_callVv (mi' := mi_X5_comeInto) (as := [vI y2_3, vI (nI 0)]) (S := []) (k := 6) (t := t0) dc_X5_letIn_41 ml_RX5_97 ok_X5_comeInto rfl rfl (by decide) (Nat.le_of_ble_eq_true rfl) (by decide) ht0 rfl rfl (wk_X5_comeInto ht0 _ _ _ _ hw) (fun M9 hw => ?_)
        exact gh_vret dc_X5_letIn_44 hE rfl hw
theorem wk_X5_letIn {t0 : Nat} (ht0 : t0 < 29) (Q : gh_M → Prop)  (M : gh_M) (hw : wp_X5_letIn t0  M Q) : gh_Calls 3 mi_X5_letIn [vR 6 t0] M (gh_Qv Q) := by
  refine gh_of (by decide) rfl 2 rfl (L0 := [some (vR 6 t0), none, none]) rfl (fun wd x hE => ?_)
  unfold wp_X5_letIn at hw
  refine gh_iconst (v := (nI 0)) dc_X5_letIn_0 gc_0 ?_
  refine gh_istore_n (L' := [some (vR 6 t0), some (vI (nI 0)), none]) dc_X5_letIn_1 (by decide) rfl rfl ?_
  refine gh_drop (pc' := 0) [some (vR 6 t0), some (vI (nI 0)), none] ⟨rfl, rfl, trivial⟩ ?_
  obtain ⟨k, hw⟩ := hw
  exact lk_X5_letIn_2 ht0 hE  k _ _ hw
theorem lk_X5_goOn_19 {wd : gh_Wd} {x : gh_X} {Q : gh_M → Prop} {t0 : Nat} (ht0 : t0 < 29) (hE : gh_E wd (gh_Qv Q) x)   : ∀ (n : Nat) (x1 : Int32) (x2 : Int32) (M : gh_M), wl_X5_goOn_19 t0 Q n x1 x2 M → gh_J mi_X5_goOn 3 wd x M 19 [some (vR 6 t0), some (vI x1), some (vI x2), none, none] [] := by
  intro n
  induction n with
  | zero => intro x1 x2 M hw; exact hw.elim
  | succ n ih =>
    intro x1 x2 M hw
    unfold wl_X5_goOn_19 at hw
    refine gh_iload_n dc_X5_goOn_19 rfl ?_
    refine gh_aload_n dc_X5_goOn_20 rfl ?_
    refine gh_getR (k := 6) (t := t0) dc_X5_goOn_21 fl_RX5_34 (by decide) ht0 rfl rfl ?_
    refine gh_iload_n dc_X5_goOn_24 rfl ?_
    obtain ⟨h3, hw⟩ := hw
    refine gh_iald (k := 14) (t := t0) dc_X5_goOn_25 rfl (by decide) ht0 h3 ?_
    refine gh_icmp_ge (tgt := 119) dc_X5_goOn_26 rfl (fun c4 => ?_) (fun c4 => ?_)
    · replace hw := hw.1 c4
      exact gh_vret dc_X5_goOn_119 hE rfl hw
    · replace hw := hw.2 c4
      refine gh_aload_n dc_X5_goOn_29 rfl ?_
      refine gh_getR (k := 6) (t := t0) dc_X5_goOn_30 fl_RX5_46 (by decide) ht0 rfl rfl ?_
      refine gh_iload_n dc_X5_goOn_33 rfl ?_
      obtain ⟨h5, hw⟩ := hw
      refine gh_zald (k := 18) (t := t0) dc_X5_goOn_34 rfl (by decide) ht0 h5 ?_
      refine gh_if_ne (tgt := 119) dc_X5_goOn_35 rfl (fun c6 => ?_) (fun c6 => ?_)
      · replace hw := hw.1 c6
        exact gh_vret dc_X5_goOn_119 hE rfl hw
      · replace hw := hw.2 c6
        refine gh_aload_n dc_X5_goOn_38 rfl ?_
        refine gh_getR (k := 6) (t := t0) dc_X5_goOn_39 fl_RX5_37 (by decide) ht0 rfl rfl ?_
        refine gh_iload_n dc_X5_goOn_42 rfl ?_
        obtain ⟨h7, hw⟩ := hw
        refine gh_iald (k := 15) (t := t0) dc_X5_goOn_43 rfl (by decide) ht0 h7 ?_
        obtain ⟨y3_8, ey3_8⟩ : ∃ z, z = (M 15 t0 x1.toNatClampNeg) := ⟨_, rfl⟩
        rw [← ey3_8]
        replace hw := hw _ ey3_8
        refine gh_istore_n (L' := [some (vR 6 t0), some (vI x1), some (vI x2), some (vI y3_8), none]) dc_X5_goOn_44 (by decide) rfl rfl ?_
        refine gh_iload_n dc_X5_goOn_45 rfl ?_
        refine gh_iconst (v := (nI 1)) dc_X5_goOn_46 gc_1 ?_
        refine gh_iadd dc_X5_goOn_47 ?_
        obtain ⟨y4_9, ey4_9⟩ : ∃ z, z = (y3_8 + (nI 1)) := ⟨_, rfl⟩
        rw [← ey4_9]
        replace hw := hw _ ey4_9
        refine gh_istore (L' := [some (vR 6 t0), some (vI x1), some (vI x2), some (vI y3_8), some (vI y4_9)]) dc_X5_goOn_48 (by decide) rfl rfl ?_
        refine gh_iload dc_X5_goOn_50 rfl ?_
        refine gh_aload_n dc_X5_goOn_52 rfl ?_
        refine gh_getI (k := 6) (t := t0) dc_X5_goOn_53 fl_RX5_55 (by decide) ht0 rfl rfl ?_
        refine gh_icmp_ge (tgt := 71) dc_X5_goOn_56 rfl (fun c10 => ?_) (fun c10 => ?_)
        · replace hw := hw.1 c10
          refine gh_aload_n dc_X5_goOn_71 rfl ?_
          refine gh_getR (k := 6) (t := t0) dc_X5_goOn_72 fl_RX5_52 (by decide) ht0 rfl rfl ?_
          refine gh_iload_n dc_X5_goOn_75 rfl ?_
          refine gh_iconst (v := (-1 : Int32)) dc_X5_goOn_76 gc_m1 ?_
          obtain ⟨h11, hw⟩ := hw
          refine gh_iast (k := 20) (t := t0) dc_X5_goOn_77 rfl (by decide) ht0 h11 ?_
          obtain ⟨M12, eM12⟩ : ∃ z, z = (gh_st M 20 t0 y3_8.toNatClampNeg (-1 : Int32)) := ⟨_, rfl⟩
          rw [← eM12]
          replace hw := hw _ eM12
          refine gh_iload dc_X5_goOn_78 rfl ?_
          refine gh_aload_n dc_X5_goOn_80 rfl ?_
          refine gh_getI (k := 6) (t := t0) dc_X5_goOn_81 fl_RX5_55 (by decide) ht0 rfl rfl ?_
          refine gh_icmp_lt (tgt := 106) dc_X5_goOn_84 rfl (fun c13 => ?_) (fun c13 => ?_)
          · replace hw := hw.1 c13
            refine gh_aload_n dc_X5_goOn_106 rfl ?_
            refine gh_iload_n dc_X5_goOn_107 rfl ?_
            refine gh_iload dc_X5_goOn_108 rfl ?_
            refine gh_callVv (mi' := mi_X5_comeInto) (as := [vI x1, vI y4_9]) (S := []) (k := 6) (t := t0) dc_X5_goOn_110 ml_RX5_97 ok_X5_comeInto rfl rfl (by decide) (Nat.le_of_ble_eq_true rfl) (by decide) ht0 rfl rfl (wk_X5_comeInto ht0 _ _ _ _ hw) (fun M15 hw => ?_)
            obtain ⟨y2_16, ey2_16⟩ : ∃ z, z = (x2 + (nI 1)) := ⟨_, rfl⟩
            replace hw := hw _ ey2_16
            refine gh_iinc (v := y2_16) (L' := [some (vR 6 t0), some (vI x1), some (vI y2_16), some (vI y3_8), some (vI y4_9)]) dc_X5_goOn_113 rfl ((congrArg (fun z => x2 + z) gc_1).trans ey2_16.symm) (by decide) rfl rfl ?_
            refine gh_goto (tgt := 19) dc_X5_goOn_116 rfl ?_
            refine gh_drop (pc' := 0) [some (vR 6 t0), some (vI x1), some (vI y2_16), none, none] ⟨rfl, rfl, rfl, trivial⟩ ?_
            exact ih _ _ _ hw
          · replace hw := hw.2 c13
            refine gh_aload_n dc_X5_goOn_87 rfl ?_
            refine gh_getR (k := 6) (t := t0) dc_X5_goOn_88 fl_RX5_37 (by decide) ht0 rfl rfl ?_
            refine gh_iload_n dc_X5_goOn_91 rfl ?_
            refine gh_bipush (v := (nI 21)) dc_X5_goOn_92 gb_21 ?_
            obtain ⟨h17, hw⟩ := hw
            refine gh_iast (k := 15) (t := t0) dc_X5_goOn_94 rfl (by decide) ht0 h17 ?_
            obtain ⟨M18, eM18⟩ : ∃ z, z = (gh_st M12 15 t0 x1.toNatClampNeg (nI 21)) := ⟨_, rfl⟩
            rw [← eM18]
            replace hw := hw _ eM18
            refine gh_aload_n dc_X5_goOn_95 rfl ?_
            refine gh_dupR dc_X5_goOn_96 ?_
            refine gh_getI (k := 6) (t := t0) dc_X5_goOn_97 fl_RX5_68 (by decide) ht0 rfl rfl ?_
            refine gh_iconst (v := (nI 1)) dc_X5_goOn_100 gc_1 ?_
            refine gh_isub dc_X5_goOn_101 ?_
            refine gh_put (k := 6) (t := t0) dc_X5_goOn_102 fl_RX5_68 (by decide) ht0 rfl rfl (fun _ h => by cases h; rfl) rfl rfl ?_
            obtain ⟨M19, eM19⟩ : ∃ z, z = (gh_st M18 6 t0 4 ((M18 6 t0 4) - (nI 1))) := ⟨_, rfl⟩
            rw [← eM19]
            replace hw := hw _ eM19
            exact gh_vret dc_X5_goOn_105 hE rfl hw
        · replace hw := hw.2 c10
          refine gh_aload_n dc_X5_goOn_59 rfl ?_
          refine gh_getR (k := 6) (t := t0) dc_X5_goOn_60 fl_RX5_52 (by decide) ht0 rfl rfl ?_
          refine gh_iload dc_X5_goOn_63 rfl ?_
          obtain ⟨h20, hw⟩ := hw
          refine gh_iald (k := 20) (t := t0) dc_X5_goOn_65 rfl (by decide) ht0 h20 ?_
          refine gh_iconst (v := (-1 : Int32)) dc_X5_goOn_66 gc_m1 ?_
          refine gh_icmp_eq (tgt := 71) dc_X5_goOn_67 rfl (fun c21 => ?_) (fun c21 => ?_)
          · replace hw := hw.1 c21
            refine gh_aload_n dc_X5_goOn_71 rfl ?_
            refine gh_getR (k := 6) (t := t0) dc_X5_goOn_72 fl_RX5_52 (by decide) ht0 rfl rfl ?_
            refine gh_iload_n dc_X5_goOn_75 rfl ?_
            refine gh_iconst (v := (-1 : Int32)) dc_X5_goOn_76 gc_m1 ?_
            obtain ⟨h22, hw⟩ := hw
            refine gh_iast (k := 20) (t := t0) dc_X5_goOn_77 rfl (by decide) ht0 h22 ?_
            obtain ⟨M23, eM23⟩ : ∃ z, z = (gh_st M 20 t0 y3_8.toNatClampNeg (-1 : Int32)) := ⟨_, rfl⟩
            rw [← eM23]
            replace hw := hw _ eM23
            refine gh_iload dc_X5_goOn_78 rfl ?_
            refine gh_aload_n dc_X5_goOn_80 rfl ?_
            refine gh_getI (k := 6) (t := t0) dc_X5_goOn_81 fl_RX5_55 (by decide) ht0 rfl rfl ?_
            refine gh_icmp_lt (tgt := 106) dc_X5_goOn_84 rfl (fun c24 => ?_) (fun c24 => ?_)
            · replace hw := hw.1 c24
              refine gh_aload_n dc_X5_goOn_106 rfl ?_
              refine gh_iload_n dc_X5_goOn_107 rfl ?_
              refine gh_iload dc_X5_goOn_108 rfl ?_
              refine gh_callVv (mi' := mi_X5_comeInto) (as := [vI x1, vI y4_9]) (S := []) (k := 6) (t := t0) dc_X5_goOn_110 ml_RX5_97 ok_X5_comeInto rfl rfl (by decide) (Nat.le_of_ble_eq_true rfl) (by decide) ht0 rfl rfl (wk_X5_comeInto ht0 _ _ _ _ hw) (fun M26 hw => ?_)
              obtain ⟨y2_27, ey2_27⟩ : ∃ z, z = (x2 + (nI 1)) := ⟨_, rfl⟩
              replace hw := hw _ ey2_27
              refine gh_iinc (v := y2_27) (L' := [some (vR 6 t0), some (vI x1), some (vI y2_27), some (vI y3_8), some (vI y4_9)]) dc_X5_goOn_113 rfl ((congrArg (fun z => x2 + z) gc_1).trans ey2_27.symm) (by decide) rfl rfl ?_
              refine gh_goto (tgt := 19) dc_X5_goOn_116 rfl ?_
              refine gh_drop (pc' := 0) [some (vR 6 t0), some (vI x1), some (vI y2_27), none, none] ⟨rfl, rfl, rfl, trivial⟩ ?_
              exact ih _ _ _ hw
            · replace hw := hw.2 c24
              refine gh_aload_n dc_X5_goOn_87 rfl ?_
              refine gh_getR (k := 6) (t := t0) dc_X5_goOn_88 fl_RX5_37 (by decide) ht0 rfl rfl ?_
              refine gh_iload_n dc_X5_goOn_91 rfl ?_
              refine gh_bipush (v := (nI 21)) dc_X5_goOn_92 gb_21 ?_
              obtain ⟨h28, hw⟩ := hw
              refine gh_iast (k := 15) (t := t0) dc_X5_goOn_94 rfl (by decide) ht0 h28 ?_
              obtain ⟨M29, eM29⟩ : ∃ z, z = (gh_st M23 15 t0 x1.toNatClampNeg (nI 21)) := ⟨_, rfl⟩
              rw [← eM29]
              replace hw := hw _ eM29
              refine gh_aload_n dc_X5_goOn_95 rfl ?_
              refine gh_dupR dc_X5_goOn_96 ?_
              refine gh_getI (k := 6) (t := t0) dc_X5_goOn_97 fl_RX5_68 (by decide) ht0 rfl rfl ?_
              refine gh_iconst (v := (nI 1)) dc_X5_goOn_100 gc_1 ?_
              refine gh_isub dc_X5_goOn_101 ?_
              refine gh_put (k := 6) (t := t0) dc_X5_goOn_102 fl_RX5_68 (by decide) ht0 rfl rfl (fun _ h => by cases h; rfl) rfl rfl ?_
              obtain ⟨M30, eM30⟩ : ∃ z, z = (gh_st M29 6 t0 4 ((M29 6 t0 4) - (nI 1))) := ⟨_, rfl⟩
              rw [← eM30]
              replace hw := hw _ eM30
              exact gh_vret dc_X5_goOn_105 hE rfl hw
          · replace hw := hw.2 c21
            exact gh_vret dc_X5_goOn_70 hE rfl hw
theorem wk_X5_goOn {t0 : Nat} (ht0 : t0 < 29) (Q : gh_M → Prop) (a0 : Int32) (M : gh_M) (hw : wp_X5_goOn t0 a0 M Q) : gh_Calls 3 mi_X5_goOn [vR 6 t0, vI a0] M (gh_Qv Q) := by
  refine gh_of (by decide) rfl 3 rfl (L0 := [some (vR 6 t0), some (vI a0), none, none, none]) rfl (fun wd x hE => ?_)
  unfold wp_X5_goOn at hw
  refine gh_aload_n dc_X5_goOn_0 rfl ?_
  refine gh_getR (k := 6) (t := t0) dc_X5_goOn_1 fl_RX5_46 (by decide) ht0 rfl rfl ?_
  refine gh_iload_n dc_X5_goOn_4 rfl ?_
  obtain ⟨h1, hw⟩ := hw
  refine gh_zald (k := 18) (t := t0) dc_X5_goOn_5 rfl (by decide) ht0 h1 ?_
  refine gh_if_eq (tgt := 17) dc_X5_goOn_6 rfl (fun c2 => ?_) (fun c2 => ?_)
  · replace hw := hw.1 c2
    refine gh_iconst (v := (nI 0)) dc_X5_goOn_17 gc_0 ?_
    refine gh_istore_n (L' := [some (vR 6 t0), some (vI a0), some (vI (nI 0)), none, none]) dc_X5_goOn_18 (by decide) rfl rfl ?_
    refine gh_drop (pc' := 0) [some (vR 6 t0), some (vI a0), some (vI (nI 0)), none, none] ⟨rfl, rfl, rfl, trivial⟩ ?_
    obtain ⟨k, hw⟩ := hw
    exact lk_X5_goOn_19 ht0 hE  k _ _ _ hw
  · replace hw := hw.2 c2
    refine gh_aload_n dc_X5_goOn_9 rfl ?_
    refine gh_getR (k := 6) (t := t0) dc_X5_goOn_10 fl_RX5_46 (by decide) ht0 rfl rfl ?_
    refine gh_iload_n dc_X5_goOn_13 rfl ?_
    refine gh_iconst (v := (nI 0)) dc_X5_goOn_14 gc_0 ?_
    obtain ⟨h31, hw⟩ := hw
    refine gh_zast (k := 18) (t := t0) dc_X5_goOn_15 rfl (by decide) ht0 h31 ?_
    obtain ⟨M32, eM32⟩ : ∃ z, z = (gh_st M 18 t0 a0.toNatClampNeg ((nI 0) &&& 1)) := ⟨_, rfl⟩
    rw [← eM32]
    replace hw := hw _ eM32
    exact gh_vret dc_X5_goOn_16 hE rfl hw
theorem lk_X5_tickOn_7 {wd : gh_Wd} {x : gh_X} {Q : gh_M → Prop} {t0 : Nat} (ht0 : t0 < 29) (hE : gh_E wd (gh_Qv Q) x)   : ∀ (n : Nat) (x1 : Int32) (M : gh_M), wl_X5_tickOn_7 t0 Q n x1 M → gh_J mi_X5_tickOn 4 wd x M 7 [some (vR 6 t0), some (vI x1)] [] := by
  intro n
  induction n with
  | zero => intro x1 M hw; exact hw.elim
  | succ n ih =>
    intro x1 M hw
    unfold wl_X5_tickOn_7 at hw
    refine gh_iload_n dc_X5_tickOn_7 rfl ?_
    refine gh_if_lt (tgt := 37) dc_X5_tickOn_8 rfl (fun c2 => ?_) (fun c2 => ?_)
    · replace hw := hw.1 c2
      refine gh_aload_n dc_X5_tickOn_37 rfl ?_
      refine gh_getR (k := 6) (t := t0) dc_X5_tickOn_38 fl_RX5_52 (by decide) ht0 rfl rfl ?_
      refine gh_iconst (v := (nI 0)) dc_X5_tickOn_41 gc_0 ?_
      obtain ⟨h3, hw⟩ := hw
      refine gh_iald (k := 20) (t := t0) dc_X5_tickOn_42 rfl (by decide) ht0 h3 ?_
      refine gh_iconst (v := (-1 : Int32)) dc_X5_tickOn_43 gc_m1 ?_
      refine gh_icmp_ne (tgt := 51) dc_X5_tickOn_44 rfl (fun c4 => ?_) (fun c4 => ?_)
      · replace hw := hw.1 c4
        refine gh_aload_n dc_X5_tickOn_51 rfl ?_
        refine gh_dupR dc_X5_tickOn_52 ?_
        refine gh_getI (k := 6) (t := t0) dc_X5_tickOn_53 fl_RX5_65 (by decide) ht0 rfl rfl ?_
        refine gh_iconst (v := (nI 1)) dc_X5_tickOn_56 gc_1 ?_
        refine gh_iadd dc_X5_tickOn_57 ?_
        refine gh_put (k := 6) (t := t0) dc_X5_tickOn_58 fl_RX5_65 (by decide) ht0 rfl rfl (fun _ h => by cases h; rfl) rfl rfl ?_
        obtain ⟨M5, eM5⟩ : ∃ z, z = (gh_st M 6 t0 3 ((M 6 t0 3) + (nI 1))) := ⟨_, rfl⟩
        rw [← eM5]
        replace hw := hw _ eM5
        exact gh_vret dc_X5_tickOn_61 hE rfl hw
      · replace hw := hw.2 c4
        refine gh_aload_n dc_X5_tickOn_47 rfl ?_
        refine gh_callVv (mi' := mi_X5_letIn) (as := []) (S := []) (k := 6) (t := t0) dc_X5_tickOn_48 ml_RX5_87 ok_X5_letIn rfl rfl (by decide) (Nat.le_of_ble_eq_true rfl) (by decide) ht0 rfl rfl (wk_X5_letIn ht0 _ _ hw) (fun M7 hw => ?_)
        refine gh_aload_n dc_X5_tickOn_51 rfl ?_
        refine gh_dupR dc_X5_tickOn_52 ?_
        refine gh_getI (k := 6) (t := t0) dc_X5_tickOn_53 fl_RX5_65 (by decide) ht0 rfl rfl ?_
        refine gh_iconst (v := (nI 1)) dc_X5_tickOn_56 gc_1 ?_
        refine gh_iadd dc_X5_tickOn_57 ?_
        refine gh_put (k := 6) (t := t0) dc_X5_tickOn_58 fl_RX5_65 (by decide) ht0 rfl rfl (fun _ h => by cases h; rfl) rfl rfl ?_
        obtain ⟨M8, eM8⟩ : ∃ z, z = (gh_st M7 6 t0 3 ((M7 6 t0 3) + (nI 1))) := ⟨_, rfl⟩
        rw [← eM8]
        replace hw := hw _ eM8
        exact gh_vret dc_X5_tickOn_61 hE rfl hw
    · replace hw := hw.2 c2
      refine gh_aload_n dc_X5_tickOn_11 rfl ?_
      refine gh_getR (k := 6) (t := t0) dc_X5_tickOn_12 fl_RX5_52 (by decide) ht0 rfl rfl ?_
      refine gh_iload_n dc_X5_tickOn_15 rfl ?_
      obtain ⟨h9, hw⟩ := hw
      refine gh_iald (k := 20) (t := t0) dc_X5_tickOn_16 rfl (by decide) ht0 h9 ?_
      refine gh_iconst (v := (-1 : Int32)) dc_X5_tickOn_17 gc_m1 ?_
      refine gh_icmp_eq (tgt := 31) dc_X5_tickOn_18 rfl (fun c10 => ?_) (fun c10 => ?_)
      · replace hw := hw.1 c10
        obtain ⟨y1_11, ey1_11⟩ : ∃ z, z = (x1 + (-1 : Int32)) := ⟨_, rfl⟩
        replace hw := hw _ ey1_11
        refine gh_iinc (v := y1_11) (L' := [some (vR 6 t0), some (vI y1_11)]) dc_X5_tickOn_31 rfl ((congrArg (fun z => x1 + z) gc_m1).trans ey1_11.symm) (by decide) rfl rfl ?_
        refine gh_goto (tgt := 7) dc_X5_tickOn_34 rfl ?_
        refine gh_drop (pc' := 0) [some (vR 6 t0), some (vI y1_11)] ⟨rfl, rfl, trivial⟩ ?_
        exact ih _ _ hw
      · replace hw := hw.2 c10
        refine gh_aload_n dc_X5_tickOn_21 rfl ?_
        refine gh_aload_n dc_X5_tickOn_22 rfl ?_
        refine gh_getR (k := 6) (t := t0) dc_X5_tickOn_23 fl_RX5_52 (by decide) ht0 rfl rfl ?_
        refine gh_iload_n dc_X5_tickOn_26 rfl ?_
        obtain ⟨h12, hw⟩ := hw
        refine gh_iald (k := 20) (t := t0) dc_X5_tickOn_27 rfl (by decide) ht0 h12 ?_
        refine gh_callVv (mi' := mi_X5_goOn) (as := [vI (M 20 t0 x1.toNatClampNeg)]) (S := []) (k := 6) (t := t0) dc_X5_tickOn_28 ml_RX5_83 ok_X5_goOn rfl rfl (by decide) (Nat.le_of_ble_eq_true rfl) (by decide) ht0 rfl rfl (wk_X5_goOn ht0 _ _ _ hw) (fun M14 hw => ?_)
        obtain ⟨y1_15, ey1_15⟩ : ∃ z, z = (x1 + (-1 : Int32)) := ⟨_, rfl⟩
        replace hw := hw _ ey1_15
        refine gh_iinc (v := y1_15) (L' := [some (vR 6 t0), some (vI y1_15)]) dc_X5_tickOn_31 rfl ((congrArg (fun z => x1 + z) gc_m1).trans ey1_15.symm) (by decide) rfl rfl ?_
        refine gh_goto (tgt := 7) dc_X5_tickOn_34 rfl ?_
        refine gh_drop (pc' := 0) [some (vR 6 t0), some (vI y1_15)] ⟨rfl, rfl, trivial⟩ ?_
        exact ih _ _ hw
theorem wk_X5_tickOn {t0 : Nat} (ht0 : t0 < 29) (Q : gh_M → Prop)  (M : gh_M) (hw : wp_X5_tickOn t0  M Q) : gh_Calls 4 mi_X5_tickOn [vR 6 t0] M (gh_Qv Q) := by
  refine gh_of (by decide) rfl 1 rfl (L0 := [some (vR 6 t0), none]) rfl (fun wd x hE => ?_)
  unfold wp_X5_tickOn at hw
  refine gh_aload_n dc_X5_tickOn_0 rfl ?_
  refine gh_getI (k := 6) (t := t0) dc_X5_tickOn_1 fl_RX5_55 (by decide) ht0 rfl rfl ?_
  refine gh_iconst (v := (nI 1)) dc_X5_tickOn_4 gc_1 ?_
  refine gh_isub dc_X5_tickOn_5 ?_
  obtain ⟨y1_1, ey1_1⟩ : ∃ z, z = ((M 6 t0 0) - (nI 1)) := ⟨_, rfl⟩
  rw [← ey1_1]
  replace hw := hw _ ey1_1
  refine gh_istore_n (L' := [some (vR 6 t0), some (vI y1_1)]) dc_X5_tickOn_6 (by decide) rfl rfl ?_
  refine gh_drop (pc' := 0) [some (vR 6 t0), some (vI y1_1)] ⟨rfl, rfl, trivial⟩ ?_
  obtain ⟨k, hw⟩ := hw
  exact lk_X5_tickOn_7 ht0 hE  k _ _ hw
theorem lk_X6_ticks_43 {wd : gh_Wd} {x : gh_X} {Q : Int32 → gh_M → Prop}   (hE : gh_E wd (gh_Qi Q) x)   : ∀ (n : Nat) (x1 : Int32) (x2 : Int32) (M : gh_M), wl_X6_ticks_43 Q n x1 x2 M → gh_J mi_X6_ticks 5 wd x M 43 [some (vR 0 0), some (vI x1), some (vI x2)] [] := by
  intro n
  induction n with
  | zero => intro x1 x2 M hw; exact hw.elim
  | succ n ih =>
    intro x1 x2 M hw
    unfold wl_X6_ticks_43 at hw
    refine gh_iload_n dc_X6_ticks_43 rfl ?_
    refine gh_iload_n dc_X6_ticks_44 rfl ?_
    refine gh_icmp_ge (tgt := 65) dc_X6_ticks_45 rfl (fun c8 => ?_) (fun c8 => ?_)
    · replace hw := hw.1 c8
      refine gh_aload_n dc_X6_ticks_65 rfl ?_
      refine gh_getR (k := 0) (t := 0) dc_X6_ticks_66 fl_RX6_25 (by decide) (by decide) rfl rfl ?_
      refine gh_callVi (mi' := mi_X5_bitsOut) (as := []) (S := []) (k := 6) (t := 0) dc_X6_ticks_69 ml_RX6_155 ok_X5_bitsOut rfl rfl (by decide) (Nat.le_of_ble_eq_true rfl) (by decide) (by decide) rfl rfl (wk_X5_bitsOut (by decide) _ _ hw) (fun r9 M10 hw => ?_)
      exact gh_iret dc_X6_ticks_72 hE rfl hw
    · replace hw := hw.2 c8
      refine gh_aload_n dc_X6_ticks_48 rfl ?_
      refine gh_callVv (mi' := mi_X6_beginAct) (as := []) (S := []) (k := 0) (t := 0) dc_X6_ticks_49 ml_RX6_149 ok_X6_beginAct rfl rfl (by decide) (Nat.le_of_ble_eq_true rfl) (by decide) (by decide) rfl rfl (wk_X6_beginAct _ _ hw) (fun M12 hw => ?_)
      refine gh_aload_n dc_X6_ticks_52 rfl ?_
      refine gh_getR (k := 0) (t := 0) dc_X6_ticks_53 fl_RX6_25 (by decide) (by decide) rfl rfl ?_
      refine gh_callVv (mi' := mi_X5_tickOn) (as := []) (S := []) (k := 6) (t := 0) dc_X6_ticks_56 ml_RX6_152 ok_X5_tickOn rfl rfl (by decide) (Nat.le_of_ble_eq_true rfl) (by decide) (by decide) rfl rfl (wk_X5_tickOn (by decide) _ _ hw) (fun M14 hw => ?_)
      obtain ⟨y2_15, ey2_15⟩ : ∃ z, z = (x2 + (nI 1)) := ⟨_, rfl⟩
      replace hw := hw _ ey2_15
      refine gh_iinc (v := y2_15) (L' := [some (vR 0 0), some (vI x1), some (vI y2_15)]) dc_X6_ticks_59 rfl ((congrArg (fun z => x2 + z) gc_1).trans ey2_15.symm) (by decide) rfl rfl ?_
      refine gh_goto (tgt := 43) dc_X6_ticks_62 rfl ?_
      refine gh_drop (pc' := 0) [some (vR 0 0), some (vI x1), some (vI y2_15)] ⟨rfl, rfl, rfl, trivial⟩ ?_
      exact ih _ _ _ hw
theorem wk_X6_ticks   (Q : Int32 → gh_M → Prop) (a0 : Int32) (M : gh_M) (hw : wp_X6_ticks  a0 M Q) : gh_Calls 5 mi_X6_ticks [vR 0 0, vI a0] M (gh_Qi Q) := by
  refine gh_of (by decide) rfl 1 rfl (L0 := [some (vR 0 0), some (vI a0), none]) rfl (fun wd x hE => ?_)
  unfold wp_X6_ticks at hw
  refine gh_aload_n dc_X6_ticks_0 rfl ?_
  refine gh_callVi (mi' := mi_X6_hasTrain) (as := []) (S := []) (k := 0) (t := 0) dc_X6_ticks_1 ml_RX6_142 ok_X6_hasTrain rfl rfl (by decide) (Nat.le_of_ble_eq_true rfl) (by decide) (by decide) rfl rfl (wk_X6_hasTrain _ _ hw) (fun r1 M2 hw => ?_)
  refine gh_if_ne (tgt := 10) dc_X6_ticks_4 rfl (fun c3 => ?_) (fun c3 => ?_)
  · replace hw := hw.1 c3
    refine gh_iload_n dc_X6_ticks_10 rfl ?_
    refine gh_iconst (v := (nI 1)) dc_X6_ticks_11 gc_1 ?_
    refine gh_bipush (v := (nI 24)) dc_X6_ticks_12 gb_24 ?_
    refine gh_callSi (mi' := mi_X6_within) (as := [vI a0, vI (nI 1), vI (nI 24)]) (S := []) dc_X6_ticks_14 ml_RX6_62 ok_X6_within rfl rfl (by decide) (Nat.le_of_ble_eq_true rfl) (wk_X6_within _ _ _ _ _ hw) (fun r4 M5 hw => ?_)
    refine gh_if_ne (tgt := 23) dc_X6_ticks_17 rfl (fun c6 => ?_) (fun c6 => ?_)
    · replace hw := hw.1 c6
      refine gh_aload_n dc_X6_ticks_23 rfl ?_
      refine gh_getR (k := 0) (t := 0) dc_X6_ticks_24 fl_RX6_25 (by decide) (by decide) rfl rfl ?_
      refine gh_getI (k := 6) (t := 0) dc_X6_ticks_27 fl_RX6_146 (by decide) (by decide) rfl rfl ?_
      refine gh_iload_n dc_X6_ticks_30 rfl ?_
      refine gh_iadd dc_X6_ticks_31 ?_
      refine gh_sipush (v := (nI 999)) dc_X6_ticks_32 gs_999 ?_
      refine gh_icmp_le (tgt := 41) dc_X6_ticks_35 rfl (fun c7 => ?_) (fun c7 => ?_)
      · replace hw := hw.1 c7
        refine gh_iconst (v := (nI 0)) dc_X6_ticks_41 gc_0 ?_
        refine gh_istore_n (L' := [some (vR 0 0), some (vI a0), some (vI (nI 0))]) dc_X6_ticks_42 (by decide) rfl rfl ?_
        refine gh_drop (pc' := 0) [some (vR 0 0), some (vI a0), some (vI (nI 0))] ⟨rfl, rfl, rfl, trivial⟩ ?_
        obtain ⟨k, hw⟩ := hw
        exact lk_X6_ticks_43  hE  k _ _ _ hw
      · replace hw := hw.2 c7
        refine gh_ldc (v := (-1000003 : Int32)) dc_X6_ticks_38 tw_325 ?_
        exact gh_iret dc_X6_ticks_40 hE rfl hw
    · replace hw := hw.2 c6
      refine gh_ldc (v := (-1000001 : Int32)) dc_X6_ticks_20 tw_281 ?_
      exact gh_iret dc_X6_ticks_22 hE rfl hw
  · replace hw := hw.2 c3
    refine gh_ldc (v := (-1000002 : Int32)) dc_X6_ticks_7 tw_402 ?_
    exact gh_iret dc_X6_ticks_9 hE rfl hw
theorem wk_X6_isTrick   (Q : Int32 → gh_M → Prop) (a0 : Int32) (M : gh_M) (hw : wp_X6_isTrick  a0 M Q) : gh_Calls 2 mi_X6_isTrick [vR 0 0, vI a0] M (gh_Qi Q) := by
  refine gh_of (by decide) rfl 0 rfl (L0 := [some (vR 0 0), some (vI a0)]) rfl (fun wd x hE => ?_)
  unfold wp_X6_isTrick at hw
  refine gh_iload_n dc_X6_isTrick_0 rfl ?_
  refine gh_iconst (v := (nI 0)) dc_X6_isTrick_1 gc_0 ?_
  refine gh_aload_n dc_X6_isTrick_2 rfl ?_
  refine gh_getR (k := 0) (t := 0) dc_X6_isTrick_3 fl_RX6_25 (by decide) (by decide) rfl rfl ?_
  refine gh_getI (k := 6) (t := 0) dc_X6_isTrick_6 fl_RX6_129 (by decide) (by decide) rfl rfl ?_
  refine gh_iconst (v := (nI 1)) dc_X6_isTrick_9 gc_1 ?_
  refine gh_isub dc_X6_isTrick_10 ?_
  refine gh_callSi (mi' := mi_X6_within) (as := [vI a0, vI (nI 0), vI ((M 6 0 1) - (nI 1))]) (S := []) dc_X6_isTrick_11 ml_RX6_62 ok_X6_within rfl rfl (by decide) (Nat.le_of_ble_eq_true rfl) (wk_X6_within _ _ _ _ _ hw) (fun r1 M2 hw => ?_)
  exact gh_zret dc_X6_isTrick_14 hE rfl hw.1 hw.2
theorem wk_X6_isCell   (Q : Int32 → gh_M → Prop) (a0 : Int32) (M : gh_M) (hw : wp_X6_isCell  a0 M Q) : gh_Calls 2 mi_X6_isCell [vR 0 0, vI a0] M (gh_Qi Q) := by
  refine gh_of (by decide) rfl 0 rfl (L0 := [some (vR 0 0), some (vI a0)]) rfl (fun wd x hE => ?_)
  unfold wp_X6_isCell at hw
  refine gh_iload_n dc_X6_isCell_0 rfl ?_
  refine gh_iconst (v := (nI 0)) dc_X6_isCell_1 gc_0 ?_
  refine gh_aload_n dc_X6_isCell_2 rfl ?_
  refine gh_getR (k := 0) (t := 0) dc_X6_isCell_3 fl_RX6_25 (by decide) (by decide) rfl rfl ?_
  refine gh_getI (k := 6) (t := 0) dc_X6_isCell_6 fl_RX6_220 (by decide) (by decide) rfl rfl ?_
  refine gh_iconst (v := (nI 1)) dc_X6_isCell_9 gc_1 ?_
  refine gh_isub dc_X6_isCell_10 ?_
  refine gh_callSi (mi' := mi_X6_within) (as := [vI a0, vI (nI 0), vI ((M 6 0 0) - (nI 1))]) (S := []) dc_X6_isCell_11 ml_RX6_62 ok_X6_within rfl rfl (by decide) (Nat.le_of_ble_eq_true rfl) (wk_X6_within _ _ _ _ _ hw) (fun r1 M2 hw => ?_)
  exact gh_zret dc_X6_isCell_14 hE rfl hw.1 hw.2
theorem wk_X6_place   (Q : Int32 → gh_M → Prop) (a0 : Int32) (a1 : Int32) (M : gh_M) (hw : wp_X6_place  a0 a1 M Q) : gh_Calls 4 mi_X6_place [vR 0 0, vI a0, vI a1] M (gh_Qi Q) := by
  refine gh_of (by decide) rfl 1 rfl (L0 := [some (vR 0 0), some (vI a0), some (vI a1), none]) rfl (fun wd x hE => ?_)
  unfold wp_X6_place at hw
  refine gh_aload_n dc_X6_place_0 rfl ?_
  refine gh_iload_n dc_X6_place_1 rfl ?_
  refine gh_callVi (mi' := mi_X6_isTrick) (as := [vI a0]) (S := []) (k := 0) (t := 0) dc_X6_place_2 ml_RX6_159 ok_X6_isTrick rfl rfl (by decide) (Nat.le_of_ble_eq_true rfl) (by decide) (by decide) rfl rfl (wk_X6_isTrick _ _ _ hw) (fun r1 M2 hw => ?_)
  refine gh_if_eq (tgt := 16) dc_X6_place_5 rfl (fun c3 => ?_) (fun c3 => ?_)
  · replace hw := hw.1 c3
    refine gh_ldc (v := (-1000001 : Int32)) dc_X6_place_16 tw_281 ?_
    exact gh_iret dc_X6_place_18 hE rfl hw
  · replace hw := hw.2 c3
    refine gh_aload_n dc_X6_place_8 rfl ?_
    refine gh_iload_n dc_X6_place_9 rfl ?_
    refine gh_callVi (mi' := mi_X6_isCell) (as := [vI a1]) (S := []) (k := 0) (t := 0) dc_X6_place_10 ml_RX6_162 ok_X6_isCell rfl rfl (by decide) (Nat.le_of_ble_eq_true rfl) (by decide) (by decide) rfl rfl (wk_X6_isCell _ _ _ hw) (fun r4 M5 hw => ?_)
    refine gh_if_ne (tgt := 19) dc_X6_place_13 rfl (fun c6 => ?_) (fun c6 => ?_)
    · replace hw := hw.1 c6
      refine gh_aload_n dc_X6_place_19 rfl ?_
      refine gh_getR (k := 0) (t := 0) dc_X6_place_20 fl_RX6_25 (by decide) (by decide) rfl rfl ?_
      refine gh_getR (k := 6) (t := 0) dc_X6_place_23 fl_RX6_165 (by decide) (by decide) rfl rfl ?_
      refine gh_iload_n dc_X6_place_26 rfl ?_
      obtain ⟨h7, hw⟩ := hw
      refine gh_iald (k := 8) (t := 0) dc_X6_place_27 rfl (by decide) (by decide) h7 ?_
      obtain ⟨y3_8, ey3_8⟩ : ∃ z, z = (M5 8 0 a0.toNatClampNeg) := ⟨_, rfl⟩
      rw [← ey3_8]
      replace hw := hw _ ey3_8
      refine gh_istore_n (L' := [some (vR 0 0), some (vI a0), some (vI a1), some (vI y3_8)]) dc_X6_place_28 (by decide) rfl rfl ?_
      refine gh_iload_n dc_X6_place_29 rfl ?_
      refine gh_iload_n dc_X6_place_30 rfl ?_
      refine gh_icmp_ne (tgt := 37) dc_X6_place_31 rfl (fun c9 => ?_) (fun c9 => ?_)
      · replace hw := hw.1 c9
        refine gh_aload_n dc_X6_place_37 rfl ?_
        refine gh_callVv (mi' := mi_X6_beginAct) (as := []) (S := []) (k := 0) (t := 0) dc_X6_place_38 ml_RX6_149 ok_X6_beginAct rfl rfl (by decide) (Nat.le_of_ble_eq_true rfl) (by decide) (by decide) rfl rfl (wk_X6_beginAct _ _ hw) (fun M11 hw => ?_)
        refine gh_aload_n dc_X6_place_41 rfl ?_
        refine gh_getR (k := 0) (t := 0) dc_X6_place_42 fl_RX6_25 (by decide) (by decide) rfl rfl ?_
        refine gh_getR (k := 6) (t := 0) dc_X6_place_45 fl_RX6_165 (by decide) (by decide) rfl rfl ?_
        refine gh_iload_n dc_X6_place_48 rfl ?_
        refine gh_iload_n dc_X6_place_49 rfl ?_
        obtain ⟨h12, hw⟩ := hw
        refine gh_iast (k := 8) (t := 0) dc_X6_place_50 rfl (by decide) (by decide) h12 ?_
        obtain ⟨M13, eM13⟩ : ∃ z, z = (gh_st M11 8 0 a0.toNatClampNeg a1) := ⟨_, rfl⟩
        rw [← eM13]
        replace hw := hw _ eM13
        refine gh_iload_n dc_X6_place_51 rfl ?_
        exact gh_iret dc_X6_place_52 hE rfl hw
      · replace hw := hw.2 c9
        refine gh_ldc (v := (-1000002 : Int32)) dc_X6_place_34 tw_402 ?_
        exact gh_iret dc_X6_place_36 hE rfl hw
    · replace hw := hw.2 c6
      refine gh_ldc (v := (-1000001 : Int32)) dc_X6_place_16 tw_281 ?_
      exact gh_iret dc_X6_place_18 hE rfl hw
theorem wk_X6_oneIf   (Q : Int32 → gh_M → Prop) (a0 : Int32) (M : gh_M) (hw : wp_X6_oneIf  a0 M Q) : gh_Calls 1 mi_X6_oneIf [vI a0] M (gh_Qi Q) := by
  refine gh_of (by decide) rfl 0 rfl (L0 := [some (vI a0)]) rfl (fun wd x hE => ?_)
  unfold wp_X6_oneIf at hw
  refine gh_iload_n dc_X6_oneIf_0 rfl ?_
  refine gh_if_eq (tgt := 8) dc_X6_oneIf_1 rfl (fun c1 => ?_) (fun c1 => ?_)
  · replace hw := hw.1 c1
    refine gh_iconst (v := (nI 0)) dc_X6_oneIf_8 gc_0 ?_
    exact gh_iret dc_X6_oneIf_9 hE rfl hw
  · replace hw := hw.2 c1
    refine gh_iconst (v := (nI 1)) dc_X6_oneIf_4 gc_1 ?_
    refine gh_goto (tgt := 9) dc_X6_oneIf_5 rfl ?_
    exact gh_iret dc_X6_oneIf_9 hE rfl hw
theorem wk_X6_flip   (Q : Int32 → gh_M → Prop) (a0 : Int32) (M : gh_M) (hw : wp_X6_flip  a0 M Q) : gh_Calls 4 mi_X6_flip [vR 0 0, vI a0] M (gh_Qi Q) := by
  refine gh_of (by decide) rfl 0 rfl (L0 := [some (vR 0 0), some (vI a0)]) rfl (fun wd x hE => ?_)
  unfold wp_X6_flip at hw
  refine gh_aload_n dc_X6_flip_0 rfl ?_
  refine gh_iload_n dc_X6_flip_1 rfl ?_
  refine gh_callVi (mi' := mi_X6_isTrick) (as := [vI a0]) (S := []) (k := 0) (t := 0) dc_X6_flip_2 ml_RX6_159 ok_X6_isTrick rfl rfl (by decide) (Nat.le_of_ble_eq_true rfl) (by decide) (by decide) rfl rfl (wk_X6_isTrick _ _ _ hw) (fun r1 M2 hw => ?_)
  refine gh_if_ne (tgt := 11) dc_X6_flip_5 rfl (fun c3 => ?_) (fun c3 => ?_)
  · replace hw := hw.1 c3
    refine gh_aload_n dc_X6_flip_11 rfl ?_
    refine gh_callVv (mi' := mi_X6_beginAct) (as := []) (S := []) (k := 0) (t := 0) dc_X6_flip_12 ml_RX6_149 ok_X6_beginAct rfl rfl (by decide) (Nat.le_of_ble_eq_true rfl) (by decide) (by decide) rfl rfl (wk_X6_beginAct _ _ hw) (fun M5 hw => ?_)
    refine gh_aload_n dc_X6_flip_15 rfl ?_
    refine gh_getR (k := 0) (t := 0) dc_X6_flip_16 fl_RX6_25 (by decide) (by decide) rfl rfl ?_
    refine gh_getR (k := 6) (t := 0) dc_X6_flip_19 fl_RX6_168 (by decide) (by decide) rfl rfl ?_
    refine gh_iload_n dc_X6_flip_22 rfl ?_
    refine gh_aload_n dc_X6_flip_23 rfl ?_
    refine gh_getR (k := 0) (t := 0) dc_X6_flip_24 fl_RX6_25 (by decide) (by decide) rfl rfl ?_
    refine gh_getR (k := 6) (t := 0) dc_X6_flip_27 fl_RX6_168 (by decide) (by decide) rfl rfl ?_
    refine gh_iload_n dc_X6_flip_30 rfl ?_
    obtain ⟨h6, hw⟩ := hw
    refine gh_zald (k := 10) (t := 0) dc_X6_flip_31 rfl (by decide) (by decide) h6 ?_
    refine gh_if_ne (tgt := 39) dc_X6_flip_32 rfl (fun c7 => ?_) (fun c7 => ?_)
    · replace hw := hw.1 c7
      refine gh_iconst (v := (nI 0)) dc_X6_flip_39 gc_0 ?_
      obtain ⟨h8, hw⟩ := hw
      refine gh_zast (k := 10) (t := 0) dc_X6_flip_40 rfl (by decide) (by decide) h8 ?_
      obtain ⟨M9, eM9⟩ : ∃ z, z = (gh_st M5 10 0 a0.toNatClampNeg ((nI 0) &&& 1)) := ⟨_, rfl⟩
      rw [← eM9]
      replace hw := hw _ eM9
      refine gh_aload_n dc_X6_flip_41 rfl ?_
      refine gh_getR (k := 0) (t := 0) dc_X6_flip_42 fl_RX6_25 (by decide) (by decide) rfl rfl ?_
      refine gh_getR (k := 6) (t := 0) dc_X6_flip_45 fl_RX6_168 (by decide) (by decide) rfl rfl ?_
      refine gh_iload_n dc_X6_flip_48 rfl ?_
      obtain ⟨h10, hw⟩ := hw
      refine gh_zald (k := 10) (t := 0) dc_X6_flip_49 rfl (by decide) (by decide) h10 ?_
      refine gh_callSi (mi' := mi_X6_oneIf) (as := [vI (M9 10 0 a0.toNatClampNeg)]) (S := []) dc_X6_flip_50 ml_RX6_172 ok_X6_oneIf rfl rfl (by decide) (Nat.le_of_ble_eq_true rfl) (wk_X6_oneIf _ _ _ hw) (fun r11 M12 hw => ?_)
      exact gh_iret dc_X6_flip_53 hE rfl hw
    · replace hw := hw.2 c7
      refine gh_iconst (v := (nI 1)) dc_X6_flip_35 gc_1 ?_
      refine gh_goto (tgt := 40) dc_X6_flip_36 rfl ?_
      obtain ⟨h13, hw⟩ := hw
      refine gh_zast (k := 10) (t := 0) dc_X6_flip_40 rfl (by decide) (by decide) h13 ?_
      obtain ⟨M14, eM14⟩ : ∃ z, z = (gh_st M5 10 0 a0.toNatClampNeg ((nI 1) &&& 1)) := ⟨_, rfl⟩
      rw [← eM14]
      replace hw := hw _ eM14
      refine gh_aload_n dc_X6_flip_41 rfl ?_
      refine gh_getR (k := 0) (t := 0) dc_X6_flip_42 fl_RX6_25 (by decide) (by decide) rfl rfl ?_
      refine gh_getR (k := 6) (t := 0) dc_X6_flip_45 fl_RX6_168 (by decide) (by decide) rfl rfl ?_
      refine gh_iload_n dc_X6_flip_48 rfl ?_
      obtain ⟨h15, hw⟩ := hw
      refine gh_zald (k := 10) (t := 0) dc_X6_flip_49 rfl (by decide) (by decide) h15 ?_
      refine gh_callSi (mi' := mi_X6_oneIf) (as := [vI (M14 10 0 a0.toNatClampNeg)]) (S := []) dc_X6_flip_50 ml_RX6_172 ok_X6_oneIf rfl rfl (by decide) (Nat.le_of_ble_eq_true rfl) (wk_X6_oneIf _ _ _ hw) (fun r16 M17 hw => ?_)
      exact gh_iret dc_X6_flip_53 hE rfl hw
  · replace hw := hw.2 c3
    refine gh_ldc (v := (-1000001 : Int32)) dc_X6_flip_8 tw_281 ?_
    exact gh_iret dc_X6_flip_10 hE rfl hw
theorem wk_X6_isCar   (Q : Int32 → gh_M → Prop) (a0 : Int32) (M : gh_M) (hw : wp_X6_isCar  a0 M Q) : gh_Calls 2 mi_X6_isCar [vR 0 0, vI a0] M (gh_Qi Q) := by
  refine gh_of (by decide) rfl 0 rfl (L0 := [some (vR 0 0), some (vI a0)]) rfl (fun wd x hE => ?_)
  unfold wp_X6_isCar at hw
  refine gh_iload_n dc_X6_isCar_0 rfl ?_
  refine gh_iconst (v := (nI 0)) dc_X6_isCar_1 gc_0 ?_
  refine gh_aload_n dc_X6_isCar_2 rfl ?_
  refine gh_getR (k := 0) (t := 0) dc_X6_isCar_3 fl_RX6_25 (by decide) (by decide) rfl rfl ?_
  refine gh_getI (k := 6) (t := 0) dc_X6_isCar_6 fl_RX6_247 (by decide) (by decide) rfl rfl ?_
  refine gh_iconst (v := (nI 1)) dc_X6_isCar_9 gc_1 ?_
  refine gh_isub dc_X6_isCar_10 ?_
  refine gh_callSi (mi' := mi_X6_within) (as := [vI a0, vI (nI 0), vI ((M 6 0 2) - (nI 1))]) (S := []) dc_X6_isCar_11 ml_RX6_62 ok_X6_within rfl rfl (by decide) (Nat.le_of_ble_eq_true rfl) (wk_X6_within _ _ _ _ _ hw) (fun r1 M2 hw => ?_)
  exact gh_zret dc_X6_isCar_14 hE rfl hw.1 hw.2
theorem wk_X6_nerve   (Q : Int32 → gh_M → Prop) (a0 : Int32) (a1 : Int32) (M : gh_M) (hw : wp_X6_nerve  a0 a1 M Q) : gh_Calls 4 mi_X6_nerve [vR 0 0, vI a0, vI a1] M (gh_Qi Q) := by
  refine gh_of (by decide) rfl 1 rfl (L0 := [some (vR 0 0), some (vI a0), some (vI a1), none]) rfl (fun wd x hE => ?_)
  unfold wp_X6_nerve at hw
  refine gh_aload_n dc_X6_nerve_0 rfl ?_
  refine gh_iload_n dc_X6_nerve_1 rfl ?_
  refine gh_callVi (mi' := mi_X6_isCar) (as := [vI a0]) (S := []) (k := 0) (t := 0) dc_X6_nerve_2 ml_RX6_176 ok_X6_isCar rfl rfl (by decide) (Nat.le_of_ble_eq_true rfl) (by decide) (by decide) rfl rfl (wk_X6_isCar _ _ _ hw) (fun r1 M2 hw => ?_)
  refine gh_if_eq (tgt := 18) dc_X6_nerve_5 rfl (fun c3 => ?_) (fun c3 => ?_)
  · replace hw := hw.1 c3
    refine gh_ldc (v := (-1000001 : Int32)) dc_X6_nerve_18 tw_281 ?_
    exact gh_iret dc_X6_nerve_20 hE rfl hw
  · replace hw := hw.2 c3
    refine gh_iload_n dc_X6_nerve_8 rfl ?_
    refine gh_iconst (v := (nI 1)) dc_X6_nerve_9 gc_1 ?_
    refine gh_bipush (v := (nI 60)) dc_X6_nerve_10 gb_60 ?_
    refine gh_callSi (mi' := mi_X6_within) (as := [vI a1, vI (nI 1), vI (nI 60)]) (S := []) dc_X6_nerve_12 ml_RX6_62 ok_X6_within rfl rfl (by decide) (Nat.le_of_ble_eq_true rfl) (wk_X6_within _ _ _ _ _ hw) (fun r4 M5 hw => ?_)
    refine gh_if_ne (tgt := 21) dc_X6_nerve_15 rfl (fun c6 => ?_) (fun c6 => ?_)
    · replace hw := hw.1 c6
      refine gh_aload_n dc_X6_nerve_21 rfl ?_
      refine gh_getR (k := 0) (t := 0) dc_X6_nerve_22 fl_RX6_25 (by decide) (by decide) rfl rfl ?_
      refine gh_getR (k := 6) (t := 0) dc_X6_nerve_25 fl_RX6_179 (by decide) (by decide) rfl rfl ?_
      refine gh_iload_n dc_X6_nerve_28 rfl ?_
      obtain ⟨h7, hw⟩ := hw
      refine gh_iald (k := 13) (t := 0) dc_X6_nerve_29 rfl (by decide) (by decide) h7 ?_
      obtain ⟨y3_8, ey3_8⟩ : ∃ z, z = (M5 13 0 a0.toNatClampNeg) := ⟨_, rfl⟩
      rw [← ey3_8]
      replace hw := hw _ ey3_8
      refine gh_istore_n (L' := [some (vR 0 0), some (vI a0), some (vI a1), some (vI y3_8)]) dc_X6_nerve_30 (by decide) rfl rfl ?_
      refine gh_aload_n dc_X6_nerve_31 rfl ?_
      refine gh_callVv (mi' := mi_X6_beginAct) (as := []) (S := []) (k := 0) (t := 0) dc_X6_nerve_32 ml_RX6_149 ok_X6_beginAct rfl rfl (by decide) (Nat.le_of_ble_eq_true rfl) (by decide) (by decide) rfl rfl (wk_X6_beginAct _ _ hw) (fun M10 hw => ?_)
      refine gh_aload_n dc_X6_nerve_35 rfl ?_
      refine gh_getR (k := 0) (t := 0) dc_X6_nerve_36 fl_RX6_25 (by decide) (by decide) rfl rfl ?_
      refine gh_getR (k := 6) (t := 0) dc_X6_nerve_39 fl_RX6_179 (by decide) (by decide) rfl rfl ?_
      refine gh_iload_n dc_X6_nerve_42 rfl ?_
      refine gh_iload_n dc_X6_nerve_43 rfl ?_
      obtain ⟨h11, hw⟩ := hw
      refine gh_iast (k := 13) (t := 0) dc_X6_nerve_44 rfl (by decide) (by decide) h11 ?_
      obtain ⟨M12, eM12⟩ : ∃ z, z = (gh_st M10 13 0 a0.toNatClampNeg a1) := ⟨_, rfl⟩
      rw [← eM12]
      replace hw := hw _ eM12
      refine gh_iload_n dc_X6_nerve_45 rfl ?_
      exact gh_iret dc_X6_nerve_46 hE rfl hw
    · replace hw := hw.2 c6
      refine gh_ldc (v := (-1000001 : Int32)) dc_X6_nerve_18 tw_281 ?_
      exact gh_iret dc_X6_nerve_20 hE rfl hw
theorem wk_X5_goAgain {t0 : Nat} (ht0 : t0 < 29) (Q : gh_M → Prop) (a0 : Int32) (M : gh_M) (hw : wp_X5_goAgain t0 a0 M Q) : gh_Calls 1 mi_X5_goAgain [vR 6 t0, vI a0] M (gh_Qv Q) := by
  refine gh_of (by decide) rfl 0 rfl (L0 := [some (vR 6 t0), some (vI a0)]) rfl (fun wd x hE => ?_)
  unfold wp_X5_goAgain at hw
  refine gh_aload_n dc_X5_goAgain_0 rfl ?_
  refine gh_getR (k := 6) (t := t0) dc_X5_goAgain_1 fl_RX5_37 (by decide) ht0 rfl rfl ?_
  refine gh_iload_n dc_X5_goAgain_4 rfl ?_
  refine gh_bipush (v := (nI 20)) dc_X5_goAgain_5 gb_20 ?_
  obtain ⟨h1, hw⟩ := hw
  refine gh_iast (k := 15) (t := t0) dc_X5_goAgain_7 rfl (by decide) ht0 h1 ?_
  obtain ⟨M2, eM2⟩ : ∃ z, z = (gh_st M 15 t0 a0.toNatClampNeg (nI 20)) := ⟨_, rfl⟩
  rw [← eM2]
  replace hw := hw _ eM2
  refine gh_aload_n dc_X5_goAgain_8 rfl ?_
  refine gh_getR (k := 6) (t := t0) dc_X5_goAgain_9 fl_RX5_40 (by decide) ht0 rfl rfl ?_
  refine gh_iload_n dc_X5_goAgain_12 rfl ?_
  refine gh_iconst (v := (nI 0)) dc_X5_goAgain_13 gc_0 ?_
  obtain ⟨h3, hw⟩ := hw
  refine gh_iast (k := 16) (t := t0) dc_X5_goAgain_14 rfl (by decide) ht0 h3 ?_
  obtain ⟨M4, eM4⟩ : ∃ z, z = (gh_st M2 16 t0 a0.toNatClampNeg (nI 0)) := ⟨_, rfl⟩
  rw [← eM4]
  replace hw := hw _ eM4
  refine gh_aload_n dc_X5_goAgain_15 rfl ?_
  refine gh_getR (k := 6) (t := t0) dc_X5_goAgain_16 fl_RX5_46 (by decide) ht0 rfl rfl ?_
  refine gh_iload_n dc_X5_goAgain_19 rfl ?_
  refine gh_iconst (v := (nI 0)) dc_X5_goAgain_20 gc_0 ?_
  obtain ⟨h5, hw⟩ := hw
  refine gh_zast (k := 18) (t := t0) dc_X5_goAgain_21 rfl (by decide) ht0 h5 ?_
  obtain ⟨M6, eM6⟩ : ∃ z, z = (gh_st M4 18 t0 a0.toNatClampNeg ((nI 0) &&& 1)) := ⟨_, rfl⟩
  rw [← eM6]
  replace hw := hw _ eM6
  exact gh_vret dc_X5_goAgain_22 hE rfl hw
theorem wk_X5_bitsWaiting {t0 : Nat} (ht0 : t0 < 29) (Q : Int32 → gh_M → Prop)  (M : gh_M) (hw : wp_X5_bitsWaiting t0  M Q) : gh_Calls 3 mi_X5_bitsWaiting [vR 6 t0] M (gh_Qi Q) := by
  refine gh_of (by decide) rfl 0 rfl (L0 := [some (vR 6 t0)]) rfl (fun wd x hE => ?_)
  unfold wp_X5_bitsWaiting at hw
  refine gh_aload_n dc_X5_bitsWaiting_0 rfl ?_
  refine gh_bipush (v := (nI 20)) dc_X5_bitsWaiting_1 gb_20 ?_
  refine gh_bipush (v := (nI 20)) dc_X5_bitsWaiting_3 gb_20 ?_
  refine gh_callVi (mi' := mi_X5_bitsBetween) (as := [vI (nI 20), vI (nI 20)]) (S := []) (k := 6) (t := t0) dc_X5_bitsWaiting_5 ml_RX5_110 ok_X5_bitsBetween rfl rfl (by decide) (Nat.le_of_ble_eq_true rfl) (by decide) ht0 rfl rfl (wk_X5_bitsBetween ht0 _ _ _ _ hw) (fun r1 M2 hw => ?_)
  exact gh_iret dc_X5_bitsWaiting_8 hE rfl hw
theorem wk_X6_again   (Q : Int32 → gh_M → Prop) (a0 : Int32) (M : gh_M) (hw : wp_X6_again  a0 M Q) : gh_Calls 4 mi_X6_again [vR 0 0, vI a0] M (gh_Qi Q) := by
  refine gh_of (by decide) rfl 0 rfl (L0 := [some (vR 0 0), some (vI a0)]) rfl (fun wd x hE => ?_)
  unfold wp_X6_again at hw
  refine gh_aload_n dc_X6_again_0 rfl ?_
  refine gh_iload_n dc_X6_again_1 rfl ?_
  refine gh_callVi (mi' := mi_X6_isCar) (as := [vI a0]) (S := []) (k := 0) (t := 0) dc_X6_again_2 ml_RX6_176 ok_X6_isCar rfl rfl (by decide) (Nat.le_of_ble_eq_true rfl) (by decide) (by decide) rfl rfl (wk_X6_isCar _ _ _ hw) (fun r1 M2 hw => ?_)
  refine gh_if_ne (tgt := 11) dc_X6_again_5 rfl (fun c3 => ?_) (fun c3 => ?_)
  · replace hw := hw.1 c3
    refine gh_aload_n dc_X6_again_11 rfl ?_
    refine gh_getR (k := 0) (t := 0) dc_X6_again_12 fl_RX6_25 (by decide) (by decide) rfl rfl ?_
    refine gh_getR (k := 6) (t := 0) dc_X6_again_15 fl_RX6_182 (by decide) (by decide) rfl rfl ?_
    refine gh_iload_n dc_X6_again_18 rfl ?_
    obtain ⟨h4, hw⟩ := hw
    refine gh_iald (k := 15) (t := 0) dc_X6_again_19 rfl (by decide) (by decide) h4 ?_
    refine gh_bipush (v := (nI 21)) dc_X6_again_20 gb_21 ?_
    refine gh_icmp_eq (tgt := 28) dc_X6_again_22 rfl (fun c5 => ?_) (fun c5 => ?_)
    · replace hw := hw.1 c5
      refine gh_aload_n dc_X6_again_28 rfl ?_
      refine gh_callVv (mi' := mi_X6_beginAct) (as := []) (S := []) (k := 0) (t := 0) dc_X6_again_29 ml_RX6_149 ok_X6_beginAct rfl rfl (by decide) (Nat.le_of_ble_eq_true rfl) (by decide) (by decide) rfl rfl (wk_X6_beginAct _ _ hw) (fun M7 hw => ?_)
      refine gh_aload_n dc_X6_again_32 rfl ?_
      refine gh_getR (k := 0) (t := 0) dc_X6_again_33 fl_RX6_25 (by decide) (by decide) rfl rfl ?_
      refine gh_iload_n dc_X6_again_36 rfl ?_
      refine gh_callVv (mi' := mi_X5_goAgain) (as := [vI a0]) (S := []) (k := 6) (t := 0) dc_X6_again_37 ml_RX6_185 ok_X5_goAgain rfl rfl (by decide) (Nat.le_of_ble_eq_true rfl) (by decide) (by decide) rfl rfl (wk_X5_goAgain (by decide) _ _ _ hw) (fun M9 hw => ?_)
      refine gh_aload_n dc_X6_again_40 rfl ?_
      refine gh_getR (k := 0) (t := 0) dc_X6_again_41 fl_RX6_25 (by decide) (by decide) rfl rfl ?_
      refine gh_callVi (mi' := mi_X5_bitsWaiting) (as := []) (S := []) (k := 6) (t := 0) dc_X6_again_44 ml_RX6_189 ok_X5_bitsWaiting rfl rfl (by decide) (Nat.le_of_ble_eq_true rfl) (by decide) (by decide) rfl rfl (wk_X5_bitsWaiting (by decide) _ _ hw) (fun r10 M11 hw => ?_)
      exact gh_iret dc_X6_again_47 hE rfl hw
    · replace hw := hw.2 c5
      refine gh_ldc (v := (-1000002 : Int32)) dc_X6_again_25 tw_402 ?_
      exact gh_iret dc_X6_again_27 hE rfl hw
  · replace hw := hw.2 c3
    refine gh_ldc (v := (-1000001 : Int32)) dc_X6_again_8 tw_281 ?_
    exact gh_iret dc_X6_again_10 hE rfl hw
theorem wk_X6_trick   (Q : Int32 → gh_M → Prop) (a0 : Int32) (a1 : Int32) (M : gh_M) (hw : wp_X6_trick  a0 a1 M Q) : gh_Calls 3 mi_X6_trick [vR 0 0, vI a0, vI a1] M (gh_Qi Q) := by
  refine gh_of (by decide) rfl 0 rfl (L0 := [some (vR 0 0), some (vI a0), some (vI a1)]) rfl (fun wd x hE => ?_)
  unfold wp_X6_trick at hw
  refine gh_aload_n dc_X6_trick_0 rfl ?_
  refine gh_iload_n dc_X6_trick_1 rfl ?_
  refine gh_callVi (mi' := mi_X6_isTrick) (as := [vI a0]) (S := []) (k := 0) (t := 0) dc_X6_trick_2 ml_RX6_159 ok_X6_isTrick rfl rfl (by decide) (Nat.le_of_ble_eq_true rfl) (by decide) (by decide) rfl rfl (wk_X6_isTrick _ _ _ hw) (fun r1 M2 hw => ?_)
  refine gh_if_ne (tgt := 11) dc_X6_trick_5 rfl (fun c3 => ?_) (fun c3 => ?_)
  · replace hw := hw.1 c3
    refine gh_iload_n dc_X6_trick_11 rfl ?_
    refine (Decidable.em (a1 = (nI 0))).elim (fun c4 => ?_) (fun c4 => ?_)
    · replace hw := hw.1 c4
      refine gh_tabIn (v := (nI 0)) (tgt := 44) dc_X6_trick_12 c4 (by decide) (by decide) rfl rfl ?_
      refine gh_aload_n dc_X6_trick_44 rfl ?_
      refine gh_getR (k := 0) (t := 0) dc_X6_trick_45 fl_RX6_25 (by decide) (by decide) rfl rfl ?_
      refine gh_getR (k := 6) (t := 0) dc_X6_trick_48 fl_RX6_165 (by decide) (by decide) rfl rfl ?_
      refine gh_iload_n dc_X6_trick_51 rfl ?_
      obtain ⟨h5, hw⟩ := hw
      refine gh_iald (k := 8) (t := 0) dc_X6_trick_52 rfl (by decide) (by decide) h5 ?_
      exact gh_iret dc_X6_trick_53 hE rfl hw
    · replace hw := hw.2 c4
      refine (Decidable.em (a1 = (nI 1))).elim (fun c6 => ?_) (fun c6 => ?_)
      · replace hw := hw.1 c6
        refine gh_tabIn (v := (nI 1)) (tgt := 54) dc_X6_trick_12 c6 (by decide) (by decide) rfl rfl ?_
        refine gh_aload_n dc_X6_trick_54 rfl ?_
        refine gh_getR (k := 0) (t := 0) dc_X6_trick_55 fl_RX6_25 (by decide) (by decide) rfl rfl ?_
        refine gh_getR (k := 6) (t := 0) dc_X6_trick_58 fl_RX6_192 (by decide) (by decide) rfl rfl ?_
        refine gh_iload_n dc_X6_trick_61 rfl ?_
        obtain ⟨h7, hw⟩ := hw
        refine gh_iald (k := 9) (t := 0) dc_X6_trick_62 rfl (by decide) (by decide) h7 ?_
        exact gh_iret dc_X6_trick_63 hE rfl hw
      · replace hw := hw.2 c6
        refine (Decidable.em (a1 = (nI 2))).elim (fun c8 => ?_) (fun c8 => ?_)
        · replace hw := hw.1 c8
          refine gh_tabIn (v := (nI 2)) (tgt := 64) dc_X6_trick_12 c8 (by decide) (by decide) rfl rfl ?_
          refine gh_aload_n dc_X6_trick_64 rfl ?_
          refine gh_getR (k := 0) (t := 0) dc_X6_trick_65 fl_RX6_25 (by decide) (by decide) rfl rfl ?_
          refine gh_getR (k := 6) (t := 0) dc_X6_trick_68 fl_RX6_168 (by decide) (by decide) rfl rfl ?_
          refine gh_iload_n dc_X6_trick_71 rfl ?_
          obtain ⟨h9, hw⟩ := hw
          refine gh_zald (k := 10) (t := 0) dc_X6_trick_72 rfl (by decide) (by decide) h9 ?_
          refine gh_callSi (mi' := mi_X6_oneIf) (as := [vI (M2 10 0 a0.toNatClampNeg)]) (S := []) dc_X6_trick_73 ml_RX6_172 ok_X6_oneIf rfl rfl (by decide) (Nat.le_of_ble_eq_true rfl) (wk_X6_oneIf _ _ _ hw) (fun r10 M11 hw => ?_)
          exact gh_iret dc_X6_trick_76 hE rfl hw
        · replace hw := hw.2 c8
          refine (Decidable.em (a1 = (nI 3))).elim (fun c12 => ?_) (fun c12 => ?_)
          · replace hw := hw.1 c12
            refine gh_tabIn (v := (nI 3)) (tgt := 77) dc_X6_trick_12 c12 (by decide) (by decide) rfl rfl ?_
            refine gh_aload_n dc_X6_trick_77 rfl ?_
            refine gh_getR (k := 0) (t := 0) dc_X6_trick_78 fl_RX6_25 (by decide) (by decide) rfl rfl ?_
            refine gh_getR (k := 6) (t := 0) dc_X6_trick_81 fl_RX6_195 (by decide) (by decide) rfl rfl ?_
            refine gh_iload_n dc_X6_trick_84 rfl ?_
            obtain ⟨h13, hw⟩ := hw
            refine gh_iald (k := 11) (t := 0) dc_X6_trick_85 rfl (by decide) (by decide) h13 ?_
            exact gh_iret dc_X6_trick_86 hE rfl hw
          · replace hw := hw.2 c12
            have q0 := lv_neT c4 (a := 0) (by decide)
            have q1 := lv_neT c6 (a := 1) (by decide)
            have q2 := lv_neT c8 (a := 2) (by decide)
            have q3 := lv_neT c12 (a := 3) (by decide)
            refine gh_tabOut (tgt := 87) dc_X6_trick_12 (by omega) rfl ?_
            refine gh_ldc (v := (-1000001 : Int32)) dc_X6_trick_87 tw_281 ?_
            exact gh_iret dc_X6_trick_89 hE rfl hw
  · replace hw := hw.2 c3
    refine gh_ldc (v := (-1000001 : Int32)) dc_X6_trick_8 tw_281 ?_
    exact gh_iret dc_X6_trick_10 hE rfl hw
theorem wk_X6_car   (Q : Int32 → gh_M → Prop) (a0 : Int32) (a1 : Int32) (M : gh_M) (hw : wp_X6_car  a0 a1 M Q) : gh_Calls 3 mi_X6_car [vR 0 0, vI a0, vI a1] M (gh_Qi Q) := by
  refine gh_of (by decide) rfl 0 rfl (L0 := [some (vR 0 0), some (vI a0), some (vI a1)]) rfl (fun wd x hE => ?_)
  unfold wp_X6_car at hw
  refine gh_aload_n dc_X6_car_0 rfl ?_
  refine gh_iload_n dc_X6_car_1 rfl ?_
  refine gh_callVi (mi' := mi_X6_isCar) (as := [vI a0]) (S := []) (k := 0) (t := 0) dc_X6_car_2 ml_RX6_176 ok_X6_isCar rfl rfl (by decide) (Nat.le_of_ble_eq_true rfl) (by decide) (by decide) rfl rfl (wk_X6_isCar _ _ _ hw) (fun r1 M2 hw => ?_)
  refine gh_if_ne (tgt := 11) dc_X6_car_5 rfl (fun c3 => ?_) (fun c3 => ?_)
  · replace hw := hw.1 c3
    refine gh_iload_n dc_X6_car_11 rfl ?_
    refine (Decidable.em (a1 = (nI 0))).elim (fun c4 => ?_) (fun c4 => ?_)
    · replace hw := hw.1 c4
      refine gh_tabIn (v := (nI 0)) (tgt := 56) dc_X6_car_12 c4 (by decide) (by decide) rfl rfl ?_
      refine gh_aload_n dc_X6_car_56 rfl ?_
      refine gh_getR (k := 0) (t := 0) dc_X6_car_57 fl_RX6_25 (by decide) (by decide) rfl rfl ?_
      refine gh_getR (k := 6) (t := 0) dc_X6_car_60 fl_RX6_198 (by decide) (by decide) rfl rfl ?_
      refine gh_iload_n dc_X6_car_63 rfl ?_
      obtain ⟨h5, hw⟩ := hw
      refine gh_iald (k := 12) (t := 0) dc_X6_car_64 rfl (by decide) (by decide) h5 ?_
      exact gh_iret dc_X6_car_65 hE rfl hw
    · replace hw := hw.2 c4
      refine (Decidable.em (a1 = (nI 1))).elim (fun c6 => ?_) (fun c6 => ?_)
      · replace hw := hw.1 c6
        refine gh_tabIn (v := (nI 1)) (tgt := 66) dc_X6_car_12 c6 (by decide) (by decide) rfl rfl ?_
        refine gh_aload_n dc_X6_car_66 rfl ?_
        refine gh_getR (k := 0) (t := 0) dc_X6_car_67 fl_RX6_25 (by decide) (by decide) rfl rfl ?_
        refine gh_getR (k := 6) (t := 0) dc_X6_car_70 fl_RX6_179 (by decide) (by decide) rfl rfl ?_
        refine gh_iload_n dc_X6_car_73 rfl ?_
        obtain ⟨h7, hw⟩ := hw
        refine gh_iald (k := 13) (t := 0) dc_X6_car_74 rfl (by decide) (by decide) h7 ?_
        exact gh_iret dc_X6_car_75 hE rfl hw
      · replace hw := hw.2 c6
        refine (Decidable.em (a1 = (nI 2))).elim (fun c8 => ?_) (fun c8 => ?_)
        · replace hw := hw.1 c8
          refine gh_tabIn (v := (nI 2)) (tgt := 76) dc_X6_car_12 c8 (by decide) (by decide) rfl rfl ?_
          refine gh_aload_n dc_X6_car_76 rfl ?_
          refine gh_getR (k := 0) (t := 0) dc_X6_car_77 fl_RX6_25 (by decide) (by decide) rfl rfl ?_
          refine gh_getR (k := 6) (t := 0) dc_X6_car_80 fl_RX6_201 (by decide) (by decide) rfl rfl ?_
          refine gh_iload_n dc_X6_car_83 rfl ?_
          obtain ⟨h9, hw⟩ := hw
          refine gh_iald (k := 14) (t := 0) dc_X6_car_84 rfl (by decide) (by decide) h9 ?_
          exact gh_iret dc_X6_car_85 hE rfl hw
        · replace hw := hw.2 c8
          refine (Decidable.em (a1 = (nI 3))).elim (fun c10 => ?_) (fun c10 => ?_)
          · replace hw := hw.1 c10
            refine gh_tabIn (v := (nI 3)) (tgt := 86) dc_X6_car_12 c10 (by decide) (by decide) rfl rfl ?_
            refine gh_aload_n dc_X6_car_86 rfl ?_
            refine gh_getR (k := 0) (t := 0) dc_X6_car_87 fl_RX6_25 (by decide) (by decide) rfl rfl ?_
            refine gh_getR (k := 6) (t := 0) dc_X6_car_90 fl_RX6_182 (by decide) (by decide) rfl rfl ?_
            refine gh_iload_n dc_X6_car_93 rfl ?_
            obtain ⟨h11, hw⟩ := hw
            refine gh_iald (k := 15) (t := 0) dc_X6_car_94 rfl (by decide) (by decide) h11 ?_
            exact gh_iret dc_X6_car_95 hE rfl hw
          · replace hw := hw.2 c10
            refine (Decidable.em (a1 = (nI 4))).elim (fun c12 => ?_) (fun c12 => ?_)
            · replace hw := hw.1 c12
              refine gh_tabIn (v := (nI 4)) (tgt := 96) dc_X6_car_12 c12 (by decide) (by decide) rfl rfl ?_
              refine gh_aload_n dc_X6_car_96 rfl ?_
              refine gh_getR (k := 0) (t := 0) dc_X6_car_97 fl_RX6_25 (by decide) (by decide) rfl rfl ?_
              refine gh_getR (k := 6) (t := 0) dc_X6_car_100 fl_RX6_204 (by decide) (by decide) rfl rfl ?_
              refine gh_iload_n dc_X6_car_103 rfl ?_
              obtain ⟨h13, hw⟩ := hw
              refine gh_iald (k := 16) (t := 0) dc_X6_car_104 rfl (by decide) (by decide) h13 ?_
              exact gh_iret dc_X6_car_105 hE rfl hw
            · replace hw := hw.2 c12
              refine (Decidable.em (a1 = (nI 5))).elim (fun c14 => ?_) (fun c14 => ?_)
              · replace hw := hw.1 c14
                refine gh_tabIn (v := (nI 5)) (tgt := 106) dc_X6_car_12 c14 (by decide) (by decide) rfl rfl ?_
                refine gh_aload_n dc_X6_car_106 rfl ?_
                refine gh_getR (k := 0) (t := 0) dc_X6_car_107 fl_RX6_25 (by decide) (by decide) rfl rfl ?_
                refine gh_getR (k := 6) (t := 0) dc_X6_car_110 fl_RX6_207 (by decide) (by decide) rfl rfl ?_
                refine gh_iload_n dc_X6_car_113 rfl ?_
                obtain ⟨h15, hw⟩ := hw
                refine gh_iald (k := 17) (t := 0) dc_X6_car_114 rfl (by decide) (by decide) h15 ?_
                exact gh_iret dc_X6_car_115 hE rfl hw
              · replace hw := hw.2 c14
                refine (Decidable.em (a1 = (nI 6))).elim (fun c16 => ?_) (fun c16 => ?_)
                · replace hw := hw.1 c16
                  refine gh_tabIn (v := (nI 6)) (tgt := 116) dc_X6_car_12 c16 (by decide) (by decide) rfl rfl ?_
                  refine gh_aload_n dc_X6_car_116 rfl ?_
                  refine gh_getR (k := 0) (t := 0) dc_X6_car_117 fl_RX6_25 (by decide) (by decide) rfl rfl ?_
                  refine gh_getR (k := 6) (t := 0) dc_X6_car_120 fl_RX6_210 (by decide) (by decide) rfl rfl ?_
                  refine gh_iload_n dc_X6_car_123 rfl ?_
                  obtain ⟨h17, hw⟩ := hw
                  refine gh_zald (k := 18) (t := 0) dc_X6_car_124 rfl (by decide) (by decide) h17 ?_
                  refine gh_callSi (mi' := mi_X6_oneIf) (as := [vI (M2 18 0 a0.toNatClampNeg)]) (S := []) dc_X6_car_125 ml_RX6_172 ok_X6_oneIf rfl rfl (by decide) (Nat.le_of_ble_eq_true rfl) (wk_X6_oneIf _ _ _ hw) (fun r18 M19 hw => ?_)
                  exact gh_iret dc_X6_car_128 hE rfl hw
                · replace hw := hw.2 c16
                  have q0 := lv_neT c4 (a := 0) (by decide)
                  have q1 := lv_neT c6 (a := 1) (by decide)
                  have q2 := lv_neT c8 (a := 2) (by decide)
                  have q3 := lv_neT c10 (a := 3) (by decide)
                  have q4 := lv_neT c12 (a := 4) (by decide)
                  have q5 := lv_neT c14 (a := 5) (by decide)
                  have q6 := lv_neT c16 (a := 6) (by decide)
                  refine gh_tabOut (tgt := 129) dc_X6_car_12 (by omega) rfl ?_
                  refine gh_ldc (v := (-1000001 : Int32)) dc_X6_car_129 tw_281 ?_
                  exact gh_iret dc_X6_car_131 hE rfl hw
  · replace hw := hw.2 c3
    refine gh_ldc (v := (-1000001 : Int32)) dc_X6_car_8 tw_281 ?_
    exact gh_iret dc_X6_car_10 hE rfl hw
theorem lk_X5_tricksIn_4 {wd : gh_Wd} {x : gh_X} {Q : Int32 → gh_M → Prop} {t0 : Nat} (ht0 : t0 < 29) (hE : gh_E wd (gh_Qi Q) x)   : ∀ (n : Nat) (x1 : Int32) (x2 : Int32) (x3 : Int32) (M : gh_M), wl_X5_tricksIn_4 t0 Q n x1 x2 x3 M → gh_J mi_X5_tricksIn 2 wd x M 4 [some (vR 6 t0), some (vI x1), some (vI x2), some (vI x3)] [] := by
  intro n
  induction n with
  | zero => intro x1 x2 x3 M hw; exact hw.elim
  | succ n ih =>
    intro x1 x2 x3 M hw
    unfold wl_X5_tricksIn_4 at hw
    refine gh_iload_n dc_X5_tricksIn_4 rfl ?_
    refine gh_aload_n dc_X5_tricksIn_5 rfl ?_
    refine gh_getI (k := 6) (t := t0) dc_X5_tricksIn_6 fl_RX5_59 (by decide) ht0 rfl rfl ?_
    refine gh_icmp_ge (tgt := 41) dc_X5_tricksIn_9 rfl (fun c1 => ?_) (fun c1 => ?_)
    · replace hw := hw.1 c1
      refine gh_iload_n dc_X5_tricksIn_41 rfl ?_
      exact gh_iret dc_X5_tricksIn_42 hE rfl hw
    · replace hw := hw.2 c1
      refine gh_iload_n dc_X5_tricksIn_12 rfl ?_
      refine gh_aload_n dc_X5_tricksIn_13 rfl ?_
      refine gh_getR (k := 6) (t := t0) dc_X5_tricksIn_14 fl_RX5_15 (by decide) ht0 rfl rfl ?_
      refine gh_iload_n dc_X5_tricksIn_17 rfl ?_
      obtain ⟨h2, hw⟩ := hw
      refine gh_iald (k := 8) (t := t0) dc_X5_tricksIn_18 rfl (by decide) ht0 h2 ?_
      refine gh_iload_n dc_X5_tricksIn_19 rfl ?_
      refine gh_icmp_ne (tgt := 27) dc_X5_tricksIn_20 rfl (fun c3 => ?_) (fun c3 => ?_)
      · replace hw := hw.1 c3
        refine gh_iconst (v := (nI 0)) dc_X5_tricksIn_27 gc_0 ?_
        refine gh_callSi (mi' := mi_X6_oneIf) (as := [vI (nI 0)]) (S := [vI x2]) dc_X5_tricksIn_28 ml_RX5_117 ok_X6_oneIf rfl rfl (by decide) (Nat.le_of_ble_eq_true rfl) (wk_X6_oneIf _ _ _ hw) (fun r4 M5 hw => ?_)
        refine gh_iload_n dc_X5_tricksIn_31 rfl ?_
        refine gh_ishl dc_X5_tricksIn_32 ?_
        refine gh_ior dc_X5_tricksIn_33 ?_
        obtain ⟨y2_6, ey2_6⟩ : ∃ z, z = (x2 ||| (r4 <<< (x3 &&& 31))) := ⟨_, rfl⟩
        rw [← ey2_6]
        replace hw := hw _ ey2_6
        refine gh_istore_n (L' := [some (vR 6 t0), some (vI x1), some (vI y2_6), some (vI x3)]) dc_X5_tricksIn_34 (by decide) rfl rfl ?_
        obtain ⟨y3_7, ey3_7⟩ : ∃ z, z = (x3 + (nI 1)) := ⟨_, rfl⟩
        replace hw := hw _ ey3_7
        refine gh_iinc (v := y3_7) (L' := [some (vR 6 t0), some (vI x1), some (vI y2_6), some (vI y3_7)]) dc_X5_tricksIn_35 rfl ((congrArg (fun z => x3 + z) gc_1).trans ey3_7.symm) (by decide) rfl rfl ?_
        refine gh_goto (tgt := 4) dc_X5_tricksIn_38 rfl ?_
        refine gh_drop (pc' := 0) [some (vR 6 t0), some (vI x1), some (vI y2_6), some (vI y3_7)] ⟨rfl, rfl, rfl, rfl, trivial⟩ ?_
        exact ih _ _ _ _ hw
      · replace hw := hw.2 c3
        refine gh_iconst (v := (nI 1)) dc_X5_tricksIn_23 gc_1 ?_
        refine gh_goto (tgt := 28) dc_X5_tricksIn_24 rfl ?_
        refine gh_callSi (mi' := mi_X6_oneIf) (as := [vI (nI 1)]) (S := [vI x2]) dc_X5_tricksIn_28 ml_RX5_117 ok_X6_oneIf rfl rfl (by decide) (Nat.le_of_ble_eq_true rfl) (wk_X6_oneIf _ _ _ hw) (fun r8 M9 hw => ?_)
        refine gh_iload_n dc_X5_tricksIn_31 rfl ?_
        refine gh_ishl dc_X5_tricksIn_32 ?_
        refine gh_ior dc_X5_tricksIn_33 ?_
        obtain ⟨y2_10, ey2_10⟩ : ∃ z, z = (x2 ||| (r8 <<< (x3 &&& 31))) := ⟨_, rfl⟩
        rw [← ey2_10]
        replace hw := hw _ ey2_10
        refine gh_istore_n (L' := [some (vR 6 t0), some (vI x1), some (vI y2_10), some (vI x3)]) dc_X5_tricksIn_34 (by decide) rfl rfl ?_
        obtain ⟨y3_11, ey3_11⟩ : ∃ z, z = (x3 + (nI 1)) := ⟨_, rfl⟩
        replace hw := hw _ ey3_11
        refine gh_iinc (v := y3_11) (L' := [some (vR 6 t0), some (vI x1), some (vI y2_10), some (vI y3_11)]) dc_X5_tricksIn_35 rfl ((congrArg (fun z => x3 + z) gc_1).trans ey3_11.symm) (by decide) rfl rfl ?_
        refine gh_goto (tgt := 4) dc_X5_tricksIn_38 rfl ?_
        refine gh_drop (pc' := 0) [some (vR 6 t0), some (vI x1), some (vI y2_10), some (vI y3_11)] ⟨rfl, rfl, rfl, rfl, trivial⟩ ?_
        exact ih _ _ _ _ hw
theorem wk_X5_tricksIn {t0 : Nat} (ht0 : t0 < 29) (Q : Int32 → gh_M → Prop) (a0 : Int32) (M : gh_M) (hw : wp_X5_tricksIn t0 a0 M Q) : gh_Calls 2 mi_X5_tricksIn [vR 6 t0, vI a0] M (gh_Qi Q) := by
  refine gh_of (by decide) rfl 2 rfl (L0 := [some (vR 6 t0), some (vI a0), none, none]) rfl (fun wd x hE => ?_)
  unfold wp_X5_tricksIn at hw
  refine gh_iconst (v := (nI 0)) dc_X5_tricksIn_0 gc_0 ?_
  refine gh_istore_n (L' := [some (vR 6 t0), some (vI a0), some (vI (nI 0)), none]) dc_X5_tricksIn_1 (by decide) rfl rfl ?_
  refine gh_iconst (v := (nI 0)) dc_X5_tricksIn_2 gc_0 ?_
  refine gh_istore_n (L' := [some (vR 6 t0), some (vI a0), some (vI (nI 0)), some (vI (nI 0))]) dc_X5_tricksIn_3 (by decide) rfl rfl ?_
  refine gh_drop (pc' := 0) [some (vR 6 t0), some (vI a0), some (vI (nI 0)), some (vI (nI 0))] ⟨rfl, rfl, rfl, rfl, trivial⟩ ?_
  obtain ⟨k, hw⟩ := hw
  exact lk_X5_tricksIn_4 ht0 hE  k _ _ _ _ hw
theorem wk_X6_cell   (Q : Int32 → gh_M → Prop) (a0 : Int32) (a1 : Int32) (M : gh_M) (hw : wp_X6_cell  a0 a1 M Q) : gh_Calls 3 mi_X6_cell [vR 0 0, vI a0, vI a1] M (gh_Qi Q) := by
  refine gh_of (by decide) rfl 0 rfl (L0 := [some (vR 0 0), some (vI a0), some (vI a1)]) rfl (fun wd x hE => ?_)
  unfold wp_X6_cell at hw
  refine gh_aload_n dc_X6_cell_0 rfl ?_
  refine gh_iload_n dc_X6_cell_1 rfl ?_
  refine gh_callVi (mi' := mi_X6_isCell) (as := [vI a0]) (S := []) (k := 0) (t := 0) dc_X6_cell_2 ml_RX6_162 ok_X6_isCell rfl rfl (by decide) (Nat.le_of_ble_eq_true rfl) (by decide) (by decide) rfl rfl (wk_X6_isCell _ _ _ hw) (fun r1 M2 hw => ?_)
  refine gh_if_ne (tgt := 11) dc_X6_cell_5 rfl (fun c3 => ?_) (fun c3 => ?_)
  · replace hw := hw.1 c3
    refine gh_iload_n dc_X6_cell_11 rfl ?_
    refine (Decidable.em (a1 = (nI 0))).elim (fun c4 => ?_) (fun c4 => ?_)
    · replace hw := hw.1 c4
      refine gh_lookup (tgt := 40) dc_X6_cell_12 (by decide) (by rw [c4]; try rfl) rfl ?_
      refine gh_aload_n dc_X6_cell_40 rfl ?_
      refine gh_getR (k := 0) (t := 0) dc_X6_cell_41 fl_RX6_25 (by decide) (by decide) rfl rfl ?_
      refine gh_getR (k := 6) (t := 0) dc_X6_cell_44 fl_RX6_213 (by decide) (by decide) rfl rfl ?_
      refine gh_iload_n dc_X6_cell_47 rfl ?_
      obtain ⟨h5, hw⟩ := hw
      refine gh_iald (k := 20) (t := 0) dc_X6_cell_48 rfl (by decide) (by decide) h5 ?_
      refine gh_iconst (v := (-1 : Int32)) dc_X6_cell_49 gc_m1 ?_
      refine gh_icmp_ne (tgt := 58) dc_X6_cell_50 rfl (fun c6 => ?_) (fun c6 => ?_)
      · replace hw := hw.1 c6
        refine gh_aload_n dc_X6_cell_58 rfl ?_
        refine gh_getR (k := 0) (t := 0) dc_X6_cell_59 fl_RX6_25 (by decide) (by decide) rfl rfl ?_
        refine gh_getR (k := 6) (t := 0) dc_X6_cell_62 fl_RX6_213 (by decide) (by decide) rfl rfl ?_
        refine gh_iload_n dc_X6_cell_65 rfl ?_
        obtain ⟨h7, hw⟩ := hw
        refine gh_iald (k := 20) (t := 0) dc_X6_cell_66 rfl (by decide) (by decide) h7 ?_
        exact gh_iret dc_X6_cell_67 hE rfl hw
      · replace hw := hw.2 c6
        refine gh_ldc (v := (-1000000 : Int32)) dc_X6_cell_53 tw_508 ?_
        refine gh_goto (tgt := 67) dc_X6_cell_55 rfl ?_
        exact gh_iret dc_X6_cell_67 hE rfl hw
    · replace hw := hw.2 c4
      refine (Decidable.em (a1 = (nI 1))).elim (fun c8 => ?_) (fun c8 => ?_)
      · replace hw := hw.1 c8
        refine gh_lookup (tgt := 68) dc_X6_cell_12 (by decide) (by rw [c8]; try rfl) rfl ?_
        refine gh_aload_n dc_X6_cell_68 rfl ?_
        refine gh_getR (k := 0) (t := 0) dc_X6_cell_69 fl_RX6_25 (by decide) (by decide) rfl rfl ?_
        refine gh_iload_n dc_X6_cell_72 rfl ?_
        refine gh_callVi (mi' := mi_X5_tricksIn) (as := [vI a0]) (S := []) (k := 6) (t := 0) dc_X6_cell_73 ml_RX6_217 ok_X5_tricksIn rfl rfl (by decide) (Nat.le_of_ble_eq_true rfl) (by decide) (by decide) rfl rfl (wk_X5_tricksIn (by decide) _ _ _ hw) (fun r9 M10 hw => ?_)
        exact gh_iret dc_X6_cell_76 hE rfl hw
      · replace hw := hw.2 c8
        refine gh_lookup (tgt := 77) dc_X6_cell_12 (by decide) ((lv_osw c4 (by decide)).trans ((lv_osw c8 (by decide)).trans (rfl))) rfl ?_
        refine gh_ldc (v := (-1000001 : Int32)) dc_X6_cell_77 tw_281 ?_
        exact gh_iret dc_X6_cell_79 hE rfl hw
  · replace hw := hw.2 c3
    refine gh_ldc (v := (-1000001 : Int32)) dc_X6_cell_8 tw_281 ?_
    exact gh_iret dc_X6_cell_10 hE rfl hw
theorem wk_X5_bitsRunning {t0 : Nat} (ht0 : t0 < 29) (Q : Int32 → gh_M → Prop)  (M : gh_M) (hw : wp_X5_bitsRunning t0  M Q) : gh_Calls 3 mi_X5_bitsRunning [vR 6 t0] M (gh_Qi Q) := by
  refine gh_of (by decide) rfl 0 rfl (L0 := [some (vR 6 t0)]) rfl (fun wd x hE => ?_)
  unfold wp_X5_bitsRunning at hw
  refine gh_aload_n dc_X5_bitsRunning_0 rfl ?_
  refine gh_iconst (v := (nI 0)) dc_X5_bitsRunning_1 gc_0 ?_
  refine gh_bipush (v := (nI 11)) dc_X5_bitsRunning_2 gb_11 ?_
  refine gh_callVi (mi' := mi_X5_bitsBetween) (as := [vI (nI 0), vI (nI 11)]) (S := []) (k := 6) (t := t0) dc_X5_bitsRunning_4 ml_RX5_110 ok_X5_bitsBetween rfl rfl (by decide) (Nat.le_of_ble_eq_true rfl) (by decide) ht0 rfl rfl (wk_X5_bitsBetween ht0 _ _ _ _ hw) (fun r1 M2 hw => ?_)
  exact gh_iret dc_X5_bitsRunning_7 hE rfl hw
theorem lk_X5_bitsOn_4 {wd : gh_Wd} {x : gh_X} {Q : Int32 → gh_M → Prop} {t0 : Nat} (ht0 : t0 < 29) (hE : gh_E wd (gh_Qi Q) x)   : ∀ (n : Nat) (x1 : Int32) (x2 : Int32) (M : gh_M), wl_X5_bitsOn_4 t0 Q n x1 x2 M → gh_J mi_X5_bitsOn 2 wd x M 4 [some (vR 6 t0), some (vI x1), some (vI x2)] [] := by
  intro n
  induction n with
  | zero => intro x1 x2 M hw; exact hw.elim
  | succ n ih =>
    intro x1 x2 M hw
    unfold wl_X5_bitsOn_4 at hw
    refine gh_iload_n dc_X5_bitsOn_4 rfl ?_
    refine gh_aload_n dc_X5_bitsOn_5 rfl ?_
    refine gh_getI (k := 6) (t := t0) dc_X5_bitsOn_6 fl_RX5_59 (by decide) ht0 rfl rfl ?_
    refine gh_icmp_ge (tgt := 32) dc_X5_bitsOn_9 rfl (fun c1 => ?_) (fun c1 => ?_)
    · replace hw := hw.1 c1
      refine gh_iload_n dc_X5_bitsOn_32 rfl ?_
      exact gh_iret dc_X5_bitsOn_33 hE rfl hw
    · replace hw := hw.2 c1
      refine gh_iload_n dc_X5_bitsOn_12 rfl ?_
      refine gh_aload_n dc_X5_bitsOn_13 rfl ?_
      refine gh_getR (k := 6) (t := t0) dc_X5_bitsOn_14 fl_RX5_21 (by decide) ht0 rfl rfl ?_
      refine gh_iload_n dc_X5_bitsOn_17 rfl ?_
      obtain ⟨h2, hw⟩ := hw
      refine gh_zald (k := 10) (t := t0) dc_X5_bitsOn_18 rfl (by decide) ht0 h2 ?_
      refine gh_callSi (mi' := mi_X6_oneIf) (as := [vI (M 10 t0 x2.toNatClampNeg)]) (S := [vI x1]) dc_X5_bitsOn_19 ml_RX5_117 ok_X6_oneIf rfl rfl (by decide) (Nat.le_of_ble_eq_true rfl) (wk_X6_oneIf _ _ _ hw) (fun r3 M4 hw => ?_)
      refine gh_iload_n dc_X5_bitsOn_22 rfl ?_
      refine gh_ishl dc_X5_bitsOn_23 ?_
      refine gh_ior dc_X5_bitsOn_24 ?_
      obtain ⟨y1_5, ey1_5⟩ : ∃ z, z = (x1 ||| (r3 <<< (x2 &&& 31))) := ⟨_, rfl⟩
      rw [← ey1_5]
      replace hw := hw _ ey1_5
      refine gh_istore_n (L' := [some (vR 6 t0), some (vI y1_5), some (vI x2)]) dc_X5_bitsOn_25 (by decide) rfl rfl ?_
      obtain ⟨y2_6, ey2_6⟩ : ∃ z, z = (x2 + (nI 1)) := ⟨_, rfl⟩
      replace hw := hw _ ey2_6
      refine gh_iinc (v := y2_6) (L' := [some (vR 6 t0), some (vI y1_5), some (vI y2_6)]) dc_X5_bitsOn_26 rfl ((congrArg (fun z => x2 + z) gc_1).trans ey2_6.symm) (by decide) rfl rfl ?_
      refine gh_goto (tgt := 4) dc_X5_bitsOn_29 rfl ?_
      refine gh_drop (pc' := 0) [some (vR 6 t0), some (vI y1_5), some (vI y2_6)] ⟨rfl, rfl, rfl, trivial⟩ ?_
      exact ih _ _ _ hw
theorem wk_X5_bitsOn {t0 : Nat} (ht0 : t0 < 29) (Q : Int32 → gh_M → Prop)  (M : gh_M) (hw : wp_X5_bitsOn t0  M Q) : gh_Calls 2 mi_X5_bitsOn [vR 6 t0] M (gh_Qi Q) := by
  refine gh_of (by decide) rfl 2 rfl (L0 := [some (vR 6 t0), none, none]) rfl (fun wd x hE => ?_)
  unfold wp_X5_bitsOn at hw
  refine gh_iconst (v := (nI 0)) dc_X5_bitsOn_0 gc_0 ?_
  refine gh_istore_n (L' := [some (vR 6 t0), some (vI (nI 0)), none]) dc_X5_bitsOn_1 (by decide) rfl rfl ?_
  refine gh_iconst (v := (nI 0)) dc_X5_bitsOn_2 gc_0 ?_
  refine gh_istore_n (L' := [some (vR 6 t0), some (vI (nI 0)), some (vI (nI 0))]) dc_X5_bitsOn_3 (by decide) rfl rfl ?_
  refine gh_drop (pc' := 0) [some (vR 6 t0), some (vI (nI 0)), some (vI (nI 0))] ⟨rfl, rfl, rfl, trivial⟩ ?_
  obtain ⟨k, hw⟩ := hw
  exact lk_X5_bitsOn_4 ht0 hE  k _ _ _ hw
theorem wk_X6_stand   (Q : Int32 → gh_M → Prop) (a0 : Int32) (M : gh_M) (hw : wp_X6_stand  a0 M Q) : gh_Calls 4 mi_X6_stand [vR 0 0, vI a0] M (gh_Qi Q) := by
  refine gh_of (by decide) rfl 0 rfl (L0 := [some (vR 0 0), some (vI a0)]) rfl (fun wd x hE => ?_)
  unfold wp_X6_stand at hw
  refine gh_aload_n dc_X6_stand_0 rfl ?_
  refine gh_callVi (mi' := mi_X6_hasTrain) (as := []) (S := []) (k := 0) (t := 0) dc_X6_stand_1 ml_RX6_142 ok_X6_hasTrain rfl rfl (by decide) (Nat.le_of_ble_eq_true rfl) (by decide) (by decide) rfl rfl (wk_X6_hasTrain _ _ hw) (fun r1 M2 hw => ?_)
  refine gh_if_ne (tgt := 10) dc_X6_stand_4 rfl (fun c3 => ?_) (fun c3 => ?_)
  · replace hw := hw.1 c3
    refine gh_iload_n dc_X6_stand_10 rfl ?_
    refine (Decidable.em (a0 = (nI 0))).elim (fun c4 => ?_) (fun c4 => ?_)
    · replace hw := hw.1 c4
      refine gh_tabIn (v := (nI 0)) (tgt := 44) dc_X6_stand_11 c4 (by decide) (by decide) rfl rfl ?_
      refine gh_aload_n dc_X6_stand_44 rfl ?_
      refine gh_getR (k := 0) (t := 0) dc_X6_stand_45 fl_RX6_25 (by decide) (by decide) rfl rfl ?_
      refine gh_getI (k := 6) (t := 0) dc_X6_stand_48 fl_RX6_220 (by decide) (by decide) rfl rfl ?_
      exact gh_iret dc_X6_stand_51 hE rfl hw
    · replace hw := hw.2 c4
      refine (Decidable.em (a0 = (nI 1))).elim (fun c5 => ?_) (fun c5 => ?_)
      · replace hw := hw.1 c5
        refine gh_tabIn (v := (nI 1)) (tgt := 52) dc_X6_stand_11 c5 (by decide) (by decide) rfl rfl ?_
        refine gh_aload_n dc_X6_stand_52 rfl ?_
        refine gh_getR (k := 0) (t := 0) dc_X6_stand_53 fl_RX6_25 (by decide) (by decide) rfl rfl ?_
        refine gh_callVi (mi' := mi_X5_bitsWaiting) (as := []) (S := []) (k := 6) (t := 0) dc_X6_stand_56 ml_RX6_189 ok_X5_bitsWaiting rfl rfl (by decide) (Nat.le_of_ble_eq_true rfl) (by decide) (by decide) rfl rfl (wk_X5_bitsWaiting (by decide) _ _ hw) (fun r6 M7 hw => ?_)
        exact gh_iret dc_X6_stand_59 hE rfl hw
      · replace hw := hw.2 c5
        refine (Decidable.em (a0 = (nI 2))).elim (fun c8 => ?_) (fun c8 => ?_)
        · replace hw := hw.1 c8
          refine gh_tabIn (v := (nI 2)) (tgt := 60) dc_X6_stand_11 c8 (by decide) (by decide) rfl rfl ?_
          refine gh_aload_n dc_X6_stand_60 rfl ?_
          refine gh_getR (k := 0) (t := 0) dc_X6_stand_61 fl_RX6_25 (by decide) (by decide) rfl rfl ?_
          refine gh_callVi (mi' := mi_X5_bitsRunning) (as := []) (S := []) (k := 6) (t := 0) dc_X6_stand_64 ml_RX6_223 ok_X5_bitsRunning rfl rfl (by decide) (Nat.le_of_ble_eq_true rfl) (by decide) (by decide) rfl rfl (wk_X5_bitsRunning (by decide) _ _ hw) (fun r9 M10 hw => ?_)
          exact gh_iret dc_X6_stand_67 hE rfl hw
        · replace hw := hw.2 c8
          refine (Decidable.em (a0 = (nI 3))).elim (fun c11 => ?_) (fun c11 => ?_)
          · replace hw := hw.1 c11
            refine gh_tabIn (v := (nI 3)) (tgt := 68) dc_X6_stand_11 c11 (by decide) (by decide) rfl rfl ?_
            refine gh_aload_n dc_X6_stand_68 rfl ?_
            refine gh_getR (k := 0) (t := 0) dc_X6_stand_69 fl_RX6_25 (by decide) (by decide) rfl rfl ?_
            refine gh_callVi (mi' := mi_X5_bitsOut) (as := []) (S := []) (k := 6) (t := 0) dc_X6_stand_72 ml_RX6_155 ok_X5_bitsOut rfl rfl (by decide) (Nat.le_of_ble_eq_true rfl) (by decide) (by decide) rfl rfl (wk_X5_bitsOut (by decide) _ _ hw) (fun r12 M13 hw => ?_)
            exact gh_iret dc_X6_stand_75 hE rfl hw
          · replace hw := hw.2 c11
            refine (Decidable.em (a0 = (nI 4))).elim (fun c14 => ?_) (fun c14 => ?_)
            · replace hw := hw.1 c14
              refine gh_tabIn (v := (nI 4)) (tgt := 76) dc_X6_stand_11 c14 (by decide) (by decide) rfl rfl ?_
              refine gh_aload_n dc_X6_stand_76 rfl ?_
              refine gh_getR (k := 0) (t := 0) dc_X6_stand_77 fl_RX6_25 (by decide) (by decide) rfl rfl ?_
              refine gh_callVi (mi' := mi_X5_bitsOn) (as := []) (S := []) (k := 6) (t := 0) dc_X6_stand_80 ml_RX6_226 ok_X5_bitsOn rfl rfl (by decide) (Nat.le_of_ble_eq_true rfl) (by decide) (by decide) rfl rfl (wk_X5_bitsOn (by decide) _ _ hw) (fun r15 M16 hw => ?_)
              exact gh_iret dc_X6_stand_83 hE rfl hw
            · replace hw := hw.2 c14
              have q0 := lv_neT c4 (a := 0) (by decide)
              have q1 := lv_neT c5 (a := 1) (by decide)
              have q2 := lv_neT c8 (a := 2) (by decide)
              have q3 := lv_neT c11 (a := 3) (by decide)
              have q4 := lv_neT c14 (a := 4) (by decide)
              refine gh_tabOut (tgt := 84) dc_X6_stand_11 (by omega) rfl ?_
              refine gh_ldc (v := (-1000001 : Int32)) dc_X6_stand_84 tw_281 ?_
              exact gh_iret dc_X6_stand_86 hE rfl hw
  · replace hw := hw.2 c3
    refine gh_ldc (v := (-1000002 : Int32)) dc_X6_stand_7 tw_402 ?_
    exact gh_iret dc_X6_stand_9 hE rfl hw
theorem lk_X5_allOut_2 {wd : gh_Wd} {x : gh_X} {Q : Int32 → gh_M → Prop} {t0 : Nat} (ht0 : t0 < 29) (hE : gh_E wd (gh_Qi Q) x)   : ∀ (n : Nat) (x1 : Int32) (M : gh_M), wl_X5_allOut_2 t0 Q n x1 M → gh_J mi_X5_allOut 1 wd x M 2 [some (vR 6 t0), some (vI x1)] [] := by
  intro n
  induction n with
  | zero => intro x1 M hw; exact hw.elim
  | succ n ih =>
    intro x1 M hw
    unfold wl_X5_allOut_2 at hw
    refine gh_iload_n dc_X5_allOut_2 rfl ?_
    refine gh_aload_n dc_X5_allOut_3 rfl ?_
    refine gh_getI (k := 6) (t := t0) dc_X5_allOut_4 fl_RX5_62 (by decide) ht0 rfl rfl ?_
    refine gh_icmp_ge (tgt := 29) dc_X5_allOut_7 rfl (fun c1 => ?_) (fun c1 => ?_)
    · replace hw := hw.1 c1
      refine gh_iconst (v := (nI 1)) dc_X5_allOut_29 gc_1 ?_
      exact gh_zret dc_X5_allOut_30 hE rfl (by decide) hw
    · replace hw := hw.2 c1
      refine gh_aload_n dc_X5_allOut_10 rfl ?_
      refine gh_getR (k := 6) (t := t0) dc_X5_allOut_11 fl_RX5_37 (by decide) ht0 rfl rfl ?_
      refine gh_iload_n dc_X5_allOut_14 rfl ?_
      obtain ⟨h2, hw⟩ := hw
      refine gh_iald (k := 15) (t := t0) dc_X5_allOut_15 rfl (by decide) ht0 h2 ?_
      refine gh_bipush (v := (nI 21)) dc_X5_allOut_16 gb_21 ?_
      refine gh_icmp_eq (tgt := 23) dc_X5_allOut_18 rfl (fun c3 => ?_) (fun c3 => ?_)
      · replace hw := hw.1 c3
        obtain ⟨y1_4, ey1_4⟩ : ∃ z, z = (x1 + (nI 1)) := ⟨_, rfl⟩
        replace hw := hw _ ey1_4
        refine gh_iinc (v := y1_4) (L' := [some (vR 6 t0), some (vI y1_4)]) dc_X5_allOut_23 rfl ((congrArg (fun z => x1 + z) gc_1).trans ey1_4.symm) (by decide) rfl rfl ?_
        refine gh_goto (tgt := 2) dc_X5_allOut_26 rfl ?_
        refine gh_drop (pc' := 0) [some (vR 6 t0), some (vI y1_4)] ⟨rfl, rfl, trivial⟩ ?_
        exact ih _ _ hw
      · replace hw := hw.2 c3
        refine gh_iconst (v := (nI 0)) dc_X5_allOut_21 gc_0 ?_
        exact gh_zret dc_X5_allOut_22 hE rfl (by decide) hw
theorem wk_X5_allOut {t0 : Nat} (ht0 : t0 < 29) (Q : Int32 → gh_M → Prop)  (M : gh_M) (hw : wp_X5_allOut t0  M Q) : gh_Calls 1 mi_X5_allOut [vR 6 t0] M (gh_Qi Q) := by
  refine gh_of (by decide) rfl 1 rfl (L0 := [some (vR 6 t0), none]) rfl (fun wd x hE => ?_)
  unfold wp_X5_allOut at hw
  refine gh_iconst (v := (nI 0)) dc_X5_allOut_0 gc_0 ?_
  refine gh_istore_n (L' := [some (vR 6 t0), some (vI (nI 0))]) dc_X5_allOut_1 (by decide) rfl rfl ?_
  refine gh_drop (pc' := 0) [some (vR 6 t0), some (vI (nI 0))] ⟨rfl, rfl, trivial⟩ ?_
  obtain ⟨k, hw⟩ := hw
  exact lk_X5_allOut_2 ht0 hE  k _ _ hw
theorem lk_X5_tickOnFor_2 {wd : gh_Wd} {x : gh_X} {Q : gh_M → Prop} {t0 : Nat} (ht0 : t0 < 29) (hE : gh_E wd (gh_Qv Q) x)   : ∀ (n : Nat) (x1 : Int32) (x2 : Int32) (M : gh_M), wl_X5_tickOnFor_2 t0 Q n x1 x2 M → gh_J mi_X5_tickOnFor 5 wd x M 2 [some (vR 6 t0), some (vI x1), some (vI x2)] [] := by
  intro n
  induction n with
  | zero => intro x1 x2 M hw; exact hw.elim
  | succ n ih =>
    intro x1 x2 M hw
    unfold wl_X5_tickOnFor_2 at hw
    refine gh_iload_n dc_X5_tickOnFor_2 rfl ?_
    refine gh_iload_n dc_X5_tickOnFor_3 rfl ?_
    refine gh_icmp_ge (tgt := 24) dc_X5_tickOnFor_4 rfl (fun c1 => ?_) (fun c1 => ?_)
    · replace hw := hw.1 c1
      exact gh_vret dc_X5_tickOnFor_24 hE rfl hw
    · replace hw := hw.2 c1
      refine gh_aload_n dc_X5_tickOnFor_7 rfl ?_
      refine gh_callVi (mi' := mi_X5_allOut) (as := []) (S := []) (k := 6) (t := t0) dc_X5_tickOnFor_8 ml_RX5_90 ok_X5_allOut rfl rfl (by decide) (Nat.le_of_ble_eq_true rfl) (by decide) ht0 rfl rfl (wk_X5_allOut ht0 _ _ hw) (fun r2 M3 hw => ?_)
      refine gh_if_ne (tgt := 24) dc_X5_tickOnFor_11 rfl (fun c4 => ?_) (fun c4 => ?_)
      · replace hw := hw.1 c4
        exact gh_vret dc_X5_tickOnFor_24 hE rfl hw
      · replace hw := hw.2 c4
        refine gh_aload_n dc_X5_tickOnFor_14 rfl ?_
        refine gh_callVv (mi' := mi_X5_tickOn) (as := []) (S := []) (k := 6) (t := t0) dc_X5_tickOnFor_15 ml_RX5_94 ok_X5_tickOn rfl rfl (by decide) (Nat.le_of_ble_eq_true rfl) (by decide) ht0 rfl rfl (wk_X5_tickOn ht0 _ _ hw) (fun M6 hw => ?_)
        obtain ⟨y2_7, ey2_7⟩ : ∃ z, z = (x2 + (nI 1)) := ⟨_, rfl⟩
        replace hw := hw _ ey2_7
        refine gh_iinc (v := y2_7) (L' := [some (vR 6 t0), some (vI x1), some (vI y2_7)]) dc_X5_tickOnFor_18 rfl ((congrArg (fun z => x2 + z) gc_1).trans ey2_7.symm) (by decide) rfl rfl ?_
        refine gh_goto (tgt := 2) dc_X5_tickOnFor_21 rfl ?_
        refine gh_drop (pc' := 0) [some (vR 6 t0), some (vI x1), some (vI y2_7)] ⟨rfl, rfl, rfl, trivial⟩ ?_
        exact ih _ _ _ hw
theorem wk_X5_tickOnFor {t0 : Nat} (ht0 : t0 < 29) (Q : gh_M → Prop) (a0 : Int32) (M : gh_M) (hw : wp_X5_tickOnFor t0 a0 M Q) : gh_Calls 5 mi_X5_tickOnFor [vR 6 t0, vI a0] M (gh_Qv Q) := by
  refine gh_of (by decide) rfl 1 rfl (L0 := [some (vR 6 t0), some (vI a0), none]) rfl (fun wd x hE => ?_)
  unfold wp_X5_tickOnFor at hw
  refine gh_iconst (v := (nI 0)) dc_X5_tickOnFor_0 gc_0 ?_
  refine gh_istore_n (L' := [some (vR 6 t0), some (vI a0), some (vI (nI 0))]) dc_X5_tickOnFor_1 (by decide) rfl rfl ?_
  refine gh_drop (pc' := 0) [some (vR 6 t0), some (vI a0), some (vI (nI 0))] ⟨rfl, rfl, rfl, trivial⟩ ?_
  obtain ⟨k, hw⟩ := hw
  exact lk_X5_tickOnFor_2 ht0 hE  k _ _ _ hw
theorem wk_X2_behind {t0 : Nat} (ht0 : t0 < 29) (Q : gh_M → Prop) (a0 : Int32) (M : gh_M) (hw : wp_X2_behind t0 a0 M Q) : gh_Calls 6 mi_X2_behind [vR 24 0, vR 6 t0, vI a0] M (gh_Qr 6 28 Q) := by
  refine gh_of (by decide) rfl 0 rfl (L0 := [some (vR 24 0), some (vR 6 t0), some (vI a0)]) rfl (fun wd x hE => ?_)
  unfold wp_X2_behind at hw
  refine gh_aload_n dc_X2_behind_0 rfl ?_
  refine gh_getR (k := 24) (t := 0) dc_X2_behind_1 fl_RX2_12 (by decide) (by decide) rfl rfl ?_
  refine gh_aload_n dc_X2_behind_4 rfl ?_
  refine gh_callVv (mi' := mi_X5_copyFrom) (as := [vR 6 t0]) (S := []) (k := 6) (t := 28) dc_X2_behind_5 ml_RX2_38 ok_X5_copyFrom rfl rfl (by decide) (Nat.le_of_ble_eq_true rfl) (by decide) (by decide) rfl rfl (wk_X5_copyFrom (by decide) ht0 _ _ hw) (fun M2 hw => ?_)
  refine gh_aload_n dc_X2_behind_8 rfl ?_
  refine gh_getR (k := 24) (t := 0) dc_X2_behind_9 fl_RX2_12 (by decide) (by decide) rfl rfl ?_
  refine gh_iload_n dc_X2_behind_12 rfl ?_
  refine gh_callVv (mi' := mi_X5_tickOnFor) (as := [vI a0]) (S := []) (k := 6) (t := 28) dc_X2_behind_13 ml_RX2_42 ok_X5_tickOnFor rfl rfl (by decide) (Nat.le_of_ble_eq_true rfl) (by decide) (by decide) rfl rfl (wk_X5_tickOnFor (by decide) _ _ _ hw) (fun M4 hw => ?_)
  refine gh_aload_n dc_X2_behind_16 rfl ?_
  refine gh_getR (k := 24) (t := 0) dc_X2_behind_17 fl_RX2_12 (by decide) (by decide) rfl rfl ?_
  exact gh_aret dc_X2_behind_20 hE rfl hw
theorem wk_X6_ahead   (Q : Int32 → gh_M → Prop) (a0 : Int32) (a1 : Int32) (a2 : Int32) (M : gh_M) (hw : wp_X6_ahead  a0 a1 a2 M Q) : gh_Calls 7 mi_X6_ahead [vR 0 0, vI a0, vI a1, vI a2] M (gh_Qi Q) := by
  refine gh_of (by decide) rfl 1 rfl (L0 := [some (vR 0 0), some (vI a0), some (vI a1), some (vI a2), none]) rfl (fun wd x hE => ?_)
  unfold wp_X6_ahead at hw
  refine gh_aload_n dc_X6_ahead_0 rfl ?_
  refine gh_iload_n dc_X6_ahead_1 rfl ?_
  refine gh_callVi (mi' := mi_X6_isCar) (as := [vI a0]) (S := []) (k := 0) (t := 0) dc_X6_ahead_2 ml_RX6_176 ok_X6_isCar rfl rfl (by decide) (Nat.le_of_ble_eq_true rfl) (by decide) (by decide) rfl rfl (wk_X6_isCar _ _ _ hw) (fun r1 M2 hw => ?_)
  refine gh_if_eq (tgt := 27) dc_X6_ahead_5 rfl (fun c3 => ?_) (fun c3 => ?_)
  · replace hw := hw.1 c3
    refine gh_ldc (v := (-1000001 : Int32)) dc_X6_ahead_27 tw_281 ?_
    exact gh_iret dc_X6_ahead_29 hE rfl hw
  · replace hw := hw.2 c3
    refine gh_iload_n dc_X6_ahead_8 rfl ?_
    refine gh_iconst (v := (nI 0)) dc_X6_ahead_9 gc_0 ?_
    refine gh_bipush (v := (nI 60)) dc_X6_ahead_10 gb_60 ?_
    refine gh_callSi (mi' := mi_X6_within) (as := [vI a1, vI (nI 0), vI (nI 60)]) (S := []) dc_X6_ahead_12 ml_RX6_62 ok_X6_within rfl rfl (by decide) (Nat.le_of_ble_eq_true rfl) (wk_X6_within _ _ _ _ _ hw) (fun r4 M5 hw => ?_)
    refine gh_if_eq (tgt := 27) dc_X6_ahead_15 rfl (fun c6 => ?_) (fun c6 => ?_)
    · replace hw := hw.1 c6
      refine gh_ldc (v := (-1000001 : Int32)) dc_X6_ahead_27 tw_281 ?_
      exact gh_iret dc_X6_ahead_29 hE rfl hw
    · replace hw := hw.2 c6
      refine gh_iload_n dc_X6_ahead_18 rfl ?_
      refine gh_iconst (v := (nI 0)) dc_X6_ahead_19 gc_0 ?_
      refine gh_iconst (v := (nI 3)) dc_X6_ahead_20 gc_3 ?_
      refine gh_callSi (mi' := mi_X6_within) (as := [vI a2, vI (nI 0), vI (nI 3)]) (S := []) dc_X6_ahead_21 ml_RX6_62 ok_X6_within rfl rfl (by decide) (Nat.le_of_ble_eq_true rfl) (wk_X6_within _ _ _ _ _ hw) (fun r7 M8 hw => ?_)
      refine gh_if_ne (tgt := 30) dc_X6_ahead_24 rfl (fun c9 => ?_) (fun c9 => ?_)
      · replace hw := hw.1 c9
        refine gh_aload_n dc_X6_ahead_30 rfl ?_
        refine gh_getR (k := 0) (t := 0) dc_X6_ahead_31 fl_RX6_46 (by decide) (by decide) rfl rfl ?_
        refine gh_aload_n dc_X6_ahead_34 rfl ?_
        refine gh_getR (k := 0) (t := 0) dc_X6_ahead_35 fl_RX6_25 (by decide) (by decide) rfl rfl ?_
        refine gh_iload_n dc_X6_ahead_38 rfl ?_
        refine gh_callVr (mi' := mi_X2_behind) (as := [vR 6 0, vI a1]) (S := []) (k := 24) (t := 0) dc_X6_ahead_39 ml_RX6_229 ok_X2_behind rfl rfl (by decide) (Nat.le_of_ble_eq_true rfl) (by decide) (by decide) rfl rfl (wk_X2_behind (by decide) _ _ _ hw) (fun M11 hw => ?_)
        refine gh_astore (L' := [some (vR 0 0), some (vI a0), some (vI a1), some (vI a2), some (vR 6 28)]) dc_X6_ahead_42 (by decide) rfl rfl ?_
        refine gh_iload_n dc_X6_ahead_44 rfl ?_
        refine (Decidable.em (a2 = (nI 0))).elim (fun c12 => ?_) (fun c12 => ?_)
        · replace hw := hw.1 c12
          refine gh_tabIn (v := (nI 0)) (tgt := 72) dc_X6_ahead_45 c12 (by decide) (by decide) rfl rfl ?_
          refine gh_aload dc_X6_ahead_72 rfl ?_
          refine gh_getR (k := 6) (t := 28) dc_X6_ahead_74 fl_RX6_182 (by decide) (by decide) rfl rfl ?_
          refine gh_iload_n dc_X6_ahead_77 rfl ?_
          obtain ⟨h13, hw⟩ := hw
          refine gh_iald (k := 15) (t := 28) dc_X6_ahead_78 rfl (by decide) (by decide) h13 ?_
          exact gh_iret dc_X6_ahead_79 hE rfl hw
        · replace hw := hw.2 c12
          refine (Decidable.em (a2 = (nI 1))).elim (fun c14 => ?_) (fun c14 => ?_)
          · replace hw := hw.1 c14
            refine gh_tabIn (v := (nI 1)) (tgt := 80) dc_X6_ahead_45 c14 (by decide) (by decide) rfl rfl ?_
            refine gh_aload dc_X6_ahead_80 rfl ?_
            refine gh_getR (k := 6) (t := 28) dc_X6_ahead_82 fl_RX6_204 (by decide) (by decide) rfl rfl ?_
            refine gh_iload_n dc_X6_ahead_85 rfl ?_
            obtain ⟨h15, hw⟩ := hw
            refine gh_iald (k := 16) (t := 28) dc_X6_ahead_86 rfl (by decide) (by decide) h15 ?_
            exact gh_iret dc_X6_ahead_87 hE rfl hw
          · replace hw := hw.2 c14
            refine (Decidable.em (a2 = (nI 2))).elim (fun c16 => ?_) (fun c16 => ?_)
            · replace hw := hw.1 c16
              refine gh_tabIn (v := (nI 2)) (tgt := 88) dc_X6_ahead_45 c16 (by decide) (by decide) rfl rfl ?_
              refine gh_aload dc_X6_ahead_88 rfl ?_
              refine gh_getR (k := 6) (t := 28) dc_X6_ahead_90 fl_RX6_207 (by decide) (by decide) rfl rfl ?_
              refine gh_iload_n dc_X6_ahead_93 rfl ?_
              obtain ⟨h17, hw⟩ := hw
              refine gh_iald (k := 17) (t := 28) dc_X6_ahead_94 rfl (by decide) (by decide) h17 ?_
              exact gh_iret dc_X6_ahead_95 hE rfl hw
            · replace hw := hw.2 c16
              have q0 := lv_neT c12 (a := 0) (by decide)
              have q1 := lv_neT c14 (a := 1) (by decide)
              have q2 := lv_neT c16 (a := 2) (by decide)
              refine gh_tabOut (tgt := 96) dc_X6_ahead_45 (by omega) rfl ?_
              refine gh_aload dc_X6_ahead_96 rfl ?_
              refine gh_getR (k := 6) (t := 28) dc_X6_ahead_98 fl_RX6_210 (by decide) (by decide) rfl rfl ?_
              refine gh_iload_n dc_X6_ahead_101 rfl ?_
              obtain ⟨h18, hw⟩ := hw
              refine gh_zald (k := 18) (t := 28) dc_X6_ahead_102 rfl (by decide) (by decide) h18 ?_
              refine gh_callSi (mi' := mi_X6_oneIf) (as := [vI (M11 18 28 a0.toNatClampNeg)]) (S := []) dc_X6_ahead_103 ml_RX6_172 ok_X6_oneIf rfl rfl (by decide) (Nat.le_of_ble_eq_true rfl) (wk_X6_oneIf _ _ _ hw) (fun r19 M20 hw => ?_)
              exact gh_iret dc_X6_ahead_106 hE rfl hw
      · replace hw := hw.2 c9
        refine gh_ldc (v := (-1000001 : Int32)) dc_X6_ahead_27 tw_281 ?_
        exact gh_iret dc_X6_ahead_29 hE rfl hw
theorem lk_X5_sum_k17_4 {wd : gh_Wd} {x : gh_X} {Q : Int32 → gh_M → Prop} {t0 : Nat} (ht0 : t0 < 29) (hE : gh_E wd (gh_Qi Q) x)   : ∀ (n : Nat) (x1 : Int32) (x2 : Int32) (x3 : Int32) (M : gh_M), wl_X5_sum_k17_4 t0 Q n x1 x2 x3 M → gh_J mi_X5_sum 1 wd x M 4 [some (vR 17 t0), some (vI x1), some (vI x2), some (vI x3)] [] := by
  intro n
  induction n with
  | zero => intro x1 x2 x3 M hw; exact hw.elim
  | succ n ih =>
    intro x1 x2 x3 M hw
    unfold wl_X5_sum_k17_4 at hw
    refine gh_iload_n dc_X5_sum_4 rfl ?_
    refine gh_iload_n dc_X5_sum_5 rfl ?_
    refine gh_icmp_ge (tgt := 27) dc_X5_sum_6 rfl (fun c1 => ?_) (fun c1 => ?_)
    · replace hw := hw.1 c1
      refine gh_iload_n dc_X5_sum_27 rfl ?_
      exact gh_iret dc_X5_sum_28 hE rfl hw
    · replace hw := hw.2 c1
      refine gh_iload_n dc_X5_sum_9 rfl ?_
      refine gh_aload_n dc_X5_sum_10 rfl ?_
      refine gh_alen (k := 17) (t := t0) dc_X5_sum_11 rfl (by decide) ht0 ?_
      refine gh_icmp_ge (tgt := 27) dc_X5_sum_12 rfl (fun c2 => ?_) (fun c2 => ?_)
      · replace hw := hw.1 c2
        refine gh_iload_n dc_X5_sum_27 rfl ?_
        exact gh_iret dc_X5_sum_28 hE rfl hw
      · replace hw := hw.2 c2
        refine gh_iload_n dc_X5_sum_15 rfl ?_
        refine gh_aload_n dc_X5_sum_16 rfl ?_
        refine gh_iload_n dc_X5_sum_17 rfl ?_
        obtain ⟨h3, hw⟩ := hw
        refine gh_iald (k := 17) (t := t0) dc_X5_sum_18 rfl (by decide) ht0 h3 ?_
        refine gh_iadd dc_X5_sum_19 ?_
        obtain ⟨y2_4, ey2_4⟩ : ∃ z, z = (x2 + (M 17 t0 x3.toNatClampNeg)) := ⟨_, rfl⟩
        rw [← ey2_4]
        replace hw := hw _ ey2_4
        refine gh_istore_n (L' := [some (vR 17 t0), some (vI x1), some (vI y2_4), some (vI x3)]) dc_X5_sum_20 (by decide) rfl rfl ?_
        obtain ⟨y3_5, ey3_5⟩ : ∃ z, z = (x3 + (nI 1)) := ⟨_, rfl⟩
        replace hw := hw _ ey3_5
        refine gh_iinc (v := y3_5) (L' := [some (vR 17 t0), some (vI x1), some (vI y2_4), some (vI y3_5)]) dc_X5_sum_21 rfl ((congrArg (fun z => x3 + z) gc_1).trans ey3_5.symm) (by decide) rfl rfl ?_
        refine gh_goto (tgt := 4) dc_X5_sum_24 rfl ?_
        refine gh_drop (pc' := 0) [some (vR 17 t0), some (vI x1), some (vI y2_4), some (vI y3_5)] ⟨rfl, rfl, rfl, rfl, trivial⟩ ?_
        exact ih _ _ _ _ hw
theorem wk_X5_sum_k17 {t0 : Nat} (ht0 : t0 < 29) (Q : Int32 → gh_M → Prop) (a0 : Int32) (M : gh_M) (hw : wp_X5_sum_k17 t0 a0 M Q) : gh_Calls 1 mi_X5_sum [vR 17 t0, vI a0] M (gh_Qi Q) := by
  refine gh_of (by decide) rfl 2 rfl (L0 := [some (vR 17 t0), some (vI a0), none, none]) rfl (fun wd x hE => ?_)
  unfold wp_X5_sum_k17 at hw
  refine gh_iconst (v := (nI 0)) dc_X5_sum_0 gc_0 ?_
  refine gh_istore_n (L' := [some (vR 17 t0), some (vI a0), some (vI (nI 0)), none]) dc_X5_sum_1 (by decide) rfl rfl ?_
  refine gh_iconst (v := (nI 0)) dc_X5_sum_2 gc_0 ?_
  refine gh_istore_n (L' := [some (vR 17 t0), some (vI a0), some (vI (nI 0)), some (vI (nI 0))]) dc_X5_sum_3 (by decide) rfl rfl ?_
  refine gh_drop (pc' := 0) [some (vR 17 t0), some (vI a0), some (vI (nI 0)), some (vI (nI 0))] ⟨rfl, rfl, rfl, rfl, trivial⟩ ?_
  obtain ⟨k, hw⟩ := hw
  exact lk_X5_sum_k17_4 ht0 hE  k _ _ _ _ hw
theorem wk_X5_allScreams {t0 : Nat} (ht0 : t0 < 29) (Q : Int32 → gh_M → Prop)  (M : gh_M) (hw : wp_X5_allScreams t0  M Q) : gh_Calls 2 mi_X5_allScreams [vR 6 t0] M (gh_Qi Q) := by
  refine gh_of (by decide) rfl 0 rfl (L0 := [some (vR 6 t0)]) rfl (fun wd x hE => ?_)
  unfold wp_X5_allScreams at hw
  refine gh_aload_n dc_X5_allScreams_0 rfl ?_
  refine gh_getR (k := 6) (t := t0) dc_X5_allScreams_1 fl_RX5_43 (by decide) ht0 rfl rfl ?_
  refine gh_aload_n dc_X5_allScreams_4 rfl ?_
  refine gh_getI (k := 6) (t := t0) dc_X5_allScreams_5 fl_RX5_62 (by decide) ht0 rfl rfl ?_
  refine gh_callSi (mi' := mi_X5_sum) (as := [vR 17 t0, vI (M 6 t0 2)]) (S := []) dc_X5_allScreams_8 ml_RX5_121 ok_X5_sum rfl rfl (by decide) (Nat.le_of_ble_eq_true rfl) (wk_X5_sum_k17 ht0 _ _ _ hw) (fun r1 M2 hw => ?_)
  exact gh_iret dc_X5_allScreams_11 hE rfl hw
theorem lk_X5_sum_k11_4 {wd : gh_Wd} {x : gh_X} {Q : Int32 → gh_M → Prop} {t0 : Nat} (ht0 : t0 < 29) (hE : gh_E wd (gh_Qi Q) x)   : ∀ (n : Nat) (x1 : Int32) (x2 : Int32) (x3 : Int32) (M : gh_M), wl_X5_sum_k11_4 t0 Q n x1 x2 x3 M → gh_J mi_X5_sum 1 wd x M 4 [some (vR 11 t0), some (vI x1), some (vI x2), some (vI x3)] [] := by
  intro n
  induction n with
  | zero => intro x1 x2 x3 M hw; exact hw.elim
  | succ n ih =>
    intro x1 x2 x3 M hw
    unfold wl_X5_sum_k11_4 at hw
    refine gh_iload_n dc_X5_sum_4 rfl ?_
    refine gh_iload_n dc_X5_sum_5 rfl ?_
    refine gh_icmp_ge (tgt := 27) dc_X5_sum_6 rfl (fun c1 => ?_) (fun c1 => ?_)
    · replace hw := hw.1 c1
      refine gh_iload_n dc_X5_sum_27 rfl ?_
      exact gh_iret dc_X5_sum_28 hE rfl hw
    · replace hw := hw.2 c1
      refine gh_iload_n dc_X5_sum_9 rfl ?_
      refine gh_aload_n dc_X5_sum_10 rfl ?_
      refine gh_alen (k := 11) (t := t0) dc_X5_sum_11 rfl (by decide) ht0 ?_
      refine gh_icmp_ge (tgt := 27) dc_X5_sum_12 rfl (fun c2 => ?_) (fun c2 => ?_)
      · replace hw := hw.1 c2
        refine gh_iload_n dc_X5_sum_27 rfl ?_
        exact gh_iret dc_X5_sum_28 hE rfl hw
      · replace hw := hw.2 c2
        refine gh_iload_n dc_X5_sum_15 rfl ?_
        refine gh_aload_n dc_X5_sum_16 rfl ?_
        refine gh_iload_n dc_X5_sum_17 rfl ?_
        obtain ⟨h3, hw⟩ := hw
        refine gh_iald (k := 11) (t := t0) dc_X5_sum_18 rfl (by decide) ht0 h3 ?_
        refine gh_iadd dc_X5_sum_19 ?_
        obtain ⟨y2_4, ey2_4⟩ : ∃ z, z = (x2 + (M 11 t0 x3.toNatClampNeg)) := ⟨_, rfl⟩
        rw [← ey2_4]
        replace hw := hw _ ey2_4
        refine gh_istore_n (L' := [some (vR 11 t0), some (vI x1), some (vI y2_4), some (vI x3)]) dc_X5_sum_20 (by decide) rfl rfl ?_
        obtain ⟨y3_5, ey3_5⟩ : ∃ z, z = (x3 + (nI 1)) := ⟨_, rfl⟩
        replace hw := hw _ ey3_5
        refine gh_iinc (v := y3_5) (L' := [some (vR 11 t0), some (vI x1), some (vI y2_4), some (vI y3_5)]) dc_X5_sum_21 rfl ((congrArg (fun z => x3 + z) gc_1).trans ey3_5.symm) (by decide) rfl rfl ?_
        refine gh_goto (tgt := 4) dc_X5_sum_24 rfl ?_
        refine gh_drop (pc' := 0) [some (vR 11 t0), some (vI x1), some (vI y2_4), some (vI y3_5)] ⟨rfl, rfl, rfl, rfl, trivial⟩ ?_
        exact ih _ _ _ _ hw
theorem wk_X5_sum_k11 {t0 : Nat} (ht0 : t0 < 29) (Q : Int32 → gh_M → Prop) (a0 : Int32) (M : gh_M) (hw : wp_X5_sum_k11 t0 a0 M Q) : gh_Calls 1 mi_X5_sum [vR 11 t0, vI a0] M (gh_Qi Q) := by
  refine gh_of (by decide) rfl 2 rfl (L0 := [some (vR 11 t0), some (vI a0), none, none]) rfl (fun wd x hE => ?_)
  unfold wp_X5_sum_k11 at hw
  refine gh_iconst (v := (nI 0)) dc_X5_sum_0 gc_0 ?_
  refine gh_istore_n (L' := [some (vR 11 t0), some (vI a0), some (vI (nI 0)), none]) dc_X5_sum_1 (by decide) rfl rfl ?_
  refine gh_iconst (v := (nI 0)) dc_X5_sum_2 gc_0 ?_
  refine gh_istore_n (L' := [some (vR 11 t0), some (vI a0), some (vI (nI 0)), some (vI (nI 0))]) dc_X5_sum_3 (by decide) rfl rfl ?_
  refine gh_drop (pc' := 0) [some (vR 11 t0), some (vI a0), some (vI (nI 0)), some (vI (nI 0))] ⟨rfl, rfl, rfl, rfl, trivial⟩ ?_
  obtain ⟨k, hw⟩ := hw
  exact lk_X5_sum_k11_4 ht0 hE  k _ _ _ _ hw
theorem wk_X5_allMet {t0 : Nat} (ht0 : t0 < 29) (Q : Int32 → gh_M → Prop)  (M : gh_M) (hw : wp_X5_allMet t0  M Q) : gh_Calls 2 mi_X5_allMet [vR 6 t0] M (gh_Qi Q) := by
  refine gh_of (by decide) rfl 0 rfl (L0 := [some (vR 6 t0)]) rfl (fun wd x hE => ?_)
  unfold wp_X5_allMet at hw
  refine gh_aload_n dc_X5_allMet_0 rfl ?_
  refine gh_getR (k := 6) (t := t0) dc_X5_allMet_1 fl_RX5_25 (by decide) ht0 rfl rfl ?_
  refine gh_aload_n dc_X5_allMet_4 rfl ?_
  refine gh_getI (k := 6) (t := t0) dc_X5_allMet_5 fl_RX5_59 (by decide) ht0 rfl rfl ?_
  refine gh_callSi (mi' := mi_X5_sum) (as := [vR 11 t0, vI (M 6 t0 1)]) (S := []) dc_X5_allMet_8 ml_RX5_121 ok_X5_sum rfl rfl (by decide) (Nat.le_of_ble_eq_true rfl) (wk_X5_sum_k11 ht0 _ _ _ hw) (fun r1 M2 hw => ?_)
  exact gh_iret dc_X5_allMet_11 hE rfl hw
theorem wk_X6_show   (Q : Int32 → gh_M → Prop) (a0 : Int32) (a1 : Int32) (M : gh_M) (hw : wp_X6_show  a0 a1 M Q) : gh_Calls 7 mi_X6_show [vR 0 0, vI a0, vI a1] M (gh_Qi Q) := by
  refine gh_of (by decide) rfl 1 rfl (L0 := [some (vR 0 0), some (vI a0), some (vI a1), none]) rfl (fun wd x hE => ?_)
  unfold wp_X6_show at hw
  refine gh_aload_n dc_X6_show_0 rfl ?_
  refine gh_callVi (mi' := mi_X6_hasTrain) (as := []) (S := []) (k := 0) (t := 0) dc_X6_show_1 ml_RX6_142 ok_X6_hasTrain rfl rfl (by decide) (Nat.le_of_ble_eq_true rfl) (by decide) (by decide) rfl rfl (wk_X6_hasTrain _ _ hw) (fun r1 M2 hw => ?_)
  refine gh_if_ne (tgt := 10) dc_X6_show_4 rfl (fun c3 => ?_) (fun c3 => ?_)
  · replace hw := hw.1 c3
    refine gh_iload_n dc_X6_show_10 rfl ?_
    refine gh_iconst (v := (nI 0)) dc_X6_show_11 gc_0 ?_
    refine gh_bipush (v := (nI 60)) dc_X6_show_12 gb_60 ?_
    refine gh_callSi (mi' := mi_X6_within) (as := [vI a0, vI (nI 0), vI (nI 60)]) (S := []) dc_X6_show_14 ml_RX6_62 ok_X6_within rfl rfl (by decide) (Nat.le_of_ble_eq_true rfl) (wk_X6_within _ _ _ _ _ hw) (fun r4 M5 hw => ?_)
    refine gh_if_eq (tgt := 29) dc_X6_show_17 rfl (fun c6 => ?_) (fun c6 => ?_)
    · replace hw := hw.1 c6
      refine gh_ldc (v := (-1000001 : Int32)) dc_X6_show_29 tw_281 ?_
      exact gh_iret dc_X6_show_31 hE rfl hw
    · replace hw := hw.2 c6
      refine gh_iload_n dc_X6_show_20 rfl ?_
      refine gh_iconst (v := (nI 0)) dc_X6_show_21 gc_0 ?_
      refine gh_iconst (v := (nI 2)) dc_X6_show_22 gc_2 ?_
      refine gh_callSi (mi' := mi_X6_within) (as := [vI a1, vI (nI 0), vI (nI 2)]) (S := []) dc_X6_show_23 ml_RX6_62 ok_X6_within rfl rfl (by decide) (Nat.le_of_ble_eq_true rfl) (wk_X6_within _ _ _ _ _ hw) (fun r7 M8 hw => ?_)
      refine gh_if_ne (tgt := 32) dc_X6_show_26 rfl (fun c9 => ?_) (fun c9 => ?_)
      · replace hw := hw.1 c9
        refine gh_aload_n dc_X6_show_32 rfl ?_
        refine gh_getR (k := 0) (t := 0) dc_X6_show_33 fl_RX6_46 (by decide) (by decide) rfl rfl ?_
        refine gh_aload_n dc_X6_show_36 rfl ?_
        refine gh_getR (k := 0) (t := 0) dc_X6_show_37 fl_RX6_25 (by decide) (by decide) rfl rfl ?_
        refine gh_iload_n dc_X6_show_40 rfl ?_
        refine gh_callVr (mi' := mi_X2_behind) (as := [vR 6 0, vI a0]) (S := []) (k := 24) (t := 0) dc_X6_show_41 ml_RX6_229 ok_X2_behind rfl rfl (by decide) (Nat.le_of_ble_eq_true rfl) (by decide) (by decide) rfl rfl (wk_X2_behind (by decide) _ _ _ hw) (fun M11 hw => ?_)
        refine gh_astore_n (L' := [some (vR 0 0), some (vI a0), some (vI a1), some (vR 6 28)]) dc_X6_show_44 (by decide) rfl rfl ?_
        refine gh_iload_n dc_X6_show_45 rfl ?_
        refine (Decidable.em (a1 = (nI 0))).elim (fun c12 => ?_) (fun c12 => ?_)
        · replace hw := hw.1 c12
          refine gh_lookup (tgt := 72) dc_X6_show_46 (by decide) (by rw [c12]; try rfl) rfl ?_
          refine gh_aload_n dc_X6_show_72 rfl ?_
          refine gh_callVi (mi' := mi_X5_bitsOut) (as := []) (S := []) (k := 6) (t := 28) dc_X6_show_73 ml_RX6_155 ok_X5_bitsOut rfl rfl (by decide) (Nat.le_of_ble_eq_true rfl) (by decide) (by decide) rfl rfl (wk_X5_bitsOut (by decide) _ _ hw) (fun r13 M14 hw => ?_)
          exact gh_iret dc_X6_show_76 hE rfl hw
        · replace hw := hw.2 c12
          refine (Decidable.em (a1 = (nI 1))).elim (fun c15 => ?_) (fun c15 => ?_)
          · replace hw := hw.1 c15
            refine gh_lookup (tgt := 77) dc_X6_show_46 (by decide) (by rw [c15]; try rfl) rfl ?_
            refine gh_aload_n dc_X6_show_77 rfl ?_
            refine gh_callVi (mi' := mi_X5_allScreams) (as := []) (S := []) (k := 6) (t := 28) dc_X6_show_78 ml_RX6_233 ok_X5_allScreams rfl rfl (by decide) (Nat.le_of_ble_eq_true rfl) (by decide) (by decide) rfl rfl (wk_X5_allScreams (by decide) _ _ hw) (fun r16 M17 hw => ?_)
            exact gh_iret dc_X6_show_81 hE rfl hw
          · replace hw := hw.2 c15
            refine gh_lookup (tgt := 82) dc_X6_show_46 (by decide) ((lv_osw c12 (by decide)).trans ((lv_osw c15 (by decide)).trans (rfl))) rfl ?_
            refine gh_aload_n dc_X6_show_82 rfl ?_
            refine gh_callVi (mi' := mi_X5_allMet) (as := []) (S := []) (k := 6) (t := 28) dc_X6_show_83 ml_RX6_236 ok_X5_allMet rfl rfl (by decide) (Nat.le_of_ble_eq_true rfl) (by decide) (by decide) rfl rfl (wk_X5_allMet (by decide) _ _ hw) (fun r18 M19 hw => ?_)
            exact gh_iret dc_X6_show_86 hE rfl hw
      · replace hw := hw.2 c9
        refine gh_ldc (v := (-1000001 : Int32)) dc_X6_show_29 tw_281 ?_
        exact gh_iret dc_X6_show_31 hE rfl hw
  · replace hw := hw.2 c3
    refine gh_ldc (v := (-1000002 : Int32)) dc_X6_show_7 tw_402 ?_
    exact gh_iret dc_X6_show_9 hE rfl hw
theorem wk_X2_hasCome   (Q : Int32 → gh_M → Prop) (a0 : Int32) (a1 : Int32) (a2 : Int32) (M : gh_M) (hw : wp_X2_hasCome  a0 a1 a2 M Q) : gh_Calls 1 mi_X2_hasCome [vR 24 0, vI a0, vI a1, vI a2] M (gh_Qi Q) := by
  refine gh_of (by decide) rfl 0 rfl (L0 := [some (vR 24 0), some (vI a0), some (vI a1), some (vI a2)]) rfl (fun wd x hE => ?_)
  unfold wp_X2_hasCome at hw
  refine gh_iload_n dc_X2_hasCome_0 rfl ?_
  refine (Decidable.em (a1 = (nI 0))).elim (fun c1 => ?_) (fun c1 => ?_)
  · replace hw := hw.1 c1
    refine gh_lookup (tgt := 28) dc_X2_hasCome_1 (by decide) (by rw [c1]; try rfl) rfl ?_
    refine gh_aload_n dc_X2_hasCome_28 rfl ?_
    refine gh_getR (k := 24) (t := 0) dc_X2_hasCome_29 fl_RX2_12 (by decide) (by decide) rfl rfl ?_
    refine gh_getR (k := 6) (t := 28) dc_X2_hasCome_32 fl_RX2_57 (by decide) (by decide) rfl rfl ?_
    refine gh_iload_n dc_X2_hasCome_35 rfl ?_
    obtain ⟨h2, hw⟩ := hw
    refine gh_iald (k := 15) (t := 28) dc_X2_hasCome_36 rfl (by decide) (by decide) h2 ?_
    refine gh_bipush (v := (nI 20)) dc_X2_hasCome_37 gb_20 ?_
    refine gh_icmp_eq (tgt := 46) dc_X2_hasCome_39 rfl (fun c3 => ?_) (fun c3 => ?_)
    · replace hw := hw.1 c3
      refine gh_iconst (v := (nI 0)) dc_X2_hasCome_46 gc_0 ?_
      exact gh_zret dc_X2_hasCome_47 hE rfl (by decide) hw
    · replace hw := hw.2 c3
      refine gh_iconst (v := (nI 1)) dc_X2_hasCome_42 gc_1 ?_
      refine gh_goto (tgt := 47) dc_X2_hasCome_43 rfl ?_
      exact gh_zret dc_X2_hasCome_47 hE rfl (by decide) hw
  · replace hw := hw.2 c1
    refine (Decidable.em (a1 = (nI 1))).elim (fun c4 => ?_) (fun c4 => ?_)
    · replace hw := hw.1 c4
      refine gh_lookup (tgt := 48) dc_X2_hasCome_1 (by decide) (by rw [c4]; try rfl) rfl ?_
      refine gh_aload_n dc_X2_hasCome_48 rfl ?_
      refine gh_getR (k := 24) (t := 0) dc_X2_hasCome_49 fl_RX2_12 (by decide) (by decide) rfl rfl ?_
      refine gh_getR (k := 6) (t := 28) dc_X2_hasCome_52 fl_RX2_46 (by decide) (by decide) rfl rfl ?_
      refine gh_iload_n dc_X2_hasCome_55 rfl ?_
      obtain ⟨h5, hw⟩ := hw
      refine gh_iald (k := 17) (t := 28) dc_X2_hasCome_56 rfl (by decide) (by decide) h5 ?_
      refine gh_iload_n dc_X2_hasCome_57 rfl ?_
      refine gh_icmp_le (tgt := 65) dc_X2_hasCome_58 rfl (fun c6 => ?_) (fun c6 => ?_)
      · replace hw := hw.1 c6
        refine gh_iconst (v := (nI 0)) dc_X2_hasCome_65 gc_0 ?_
        exact gh_zret dc_X2_hasCome_66 hE rfl (by decide) hw
      · replace hw := hw.2 c6
        refine gh_iconst (v := (nI 1)) dc_X2_hasCome_61 gc_1 ?_
        refine gh_goto (tgt := 66) dc_X2_hasCome_62 rfl ?_
        exact gh_zret dc_X2_hasCome_66 hE rfl (by decide) hw
    · replace hw := hw.2 c4
      refine gh_lookup (tgt := 67) dc_X2_hasCome_1 (by decide) ((lv_osw c1 (by decide)).trans ((lv_osw c4 (by decide)).trans (rfl))) rfl ?_
      refine gh_aload_n dc_X2_hasCome_67 rfl ?_
      refine gh_getR (k := 24) (t := 0) dc_X2_hasCome_68 fl_RX2_12 (by decide) (by decide) rfl rfl ?_
      refine gh_getR (k := 6) (t := 28) dc_X2_hasCome_71 fl_RX2_57 (by decide) (by decide) rfl rfl ?_
      refine gh_iload_n dc_X2_hasCome_74 rfl ?_
      obtain ⟨h7, hw⟩ := hw
      refine gh_iald (k := 15) (t := 28) dc_X2_hasCome_75 rfl (by decide) (by decide) h7 ?_
      refine gh_bipush (v := (nI 21)) dc_X2_hasCome_76 gb_21 ?_
      refine gh_icmp_ne (tgt := 85) dc_X2_hasCome_78 rfl (fun c8 => ?_) (fun c8 => ?_)
      · replace hw := hw.1 c8
        refine gh_iconst (v := (nI 0)) dc_X2_hasCome_85 gc_0 ?_
        exact gh_zret dc_X2_hasCome_86 hE rfl (by decide) hw
      · replace hw := hw.2 c8
        refine gh_iconst (v := (nI 1)) dc_X2_hasCome_81 gc_1 ?_
        refine gh_goto (tgt := 86) dc_X2_hasCome_82 rfl ?_
        exact gh_zret dc_X2_hasCome_86 hE rfl (by decide) hw
theorem lk_X2_firstTime_11 {wd : gh_Wd} {x : gh_X} {Q : Int32 → gh_M → Prop} {t0 : Nat} (ht0 : t0 < 29) (hE : gh_E wd (gh_Qi Q) x)   : ∀ (n : Nat) (x2 : Int32) (x3 : Int32) (x4 : Int32) (M : gh_M), wl_X2_firstTime_11 t0 Q n x2 x3 x4 M → gh_J mi_X2_firstTime 5 wd x M 11 [some (vR 24 0), some (vR 6 t0), some (vI x2), some (vI x3), some (vI x4)] [] := by
  intro n
  induction n with
  | zero => intro x2 x3 x4 M hw; exact hw.elim
  | succ n ih =>
    intro x2 x3 x4 M hw
    unfold wl_X2_firstTime_11 at hw
    refine gh_iload dc_X2_firstTime_11 rfl ?_
    refine gh_bipush (v := (nI 60)) dc_X2_firstTime_13 gb_60 ?_
    refine gh_icmp_gt (tgt := 49) dc_X2_firstTime_15 rfl (fun c3 => ?_) (fun c3 => ?_)
    · replace hw := hw.1 c3
      refine gh_ldc (v := (-1000000 : Int32)) dc_X2_firstTime_49 tw_572 ?_
      exact gh_iret dc_X2_firstTime_51 hE rfl hw
    · replace hw := hw.2 c3
      refine gh_aload_n dc_X2_firstTime_18 rfl ?_
      refine gh_iload_n dc_X2_firstTime_19 rfl ?_
      refine gh_iload_n dc_X2_firstTime_20 rfl ?_
      refine gh_aload_n dc_X2_firstTime_21 rfl ?_
      refine gh_getR (k := 6) (t := t0) dc_X2_firstTime_22 fl_RX2_46 (by decide) ht0 rfl rfl ?_
      refine gh_iload_n dc_X2_firstTime_25 rfl ?_
      obtain ⟨h4, hw⟩ := hw
      refine gh_iald (k := 17) (t := t0) dc_X2_firstTime_26 rfl (by decide) ht0 h4 ?_
      refine gh_callVi (mi' := mi_X2_hasCome) (as := [vI x2, vI x3, vI (M 17 t0 x2.toNatClampNeg)]) (S := []) (k := 24) (t := 0) dc_X2_firstTime_27 ml_RX2_49 ok_X2_hasCome rfl rfl (by decide) (Nat.le_of_ble_eq_true rfl) (by decide) (by decide) rfl rfl (wk_X2_hasCome _ _ _ _ _ hw) (fun r5 M6 hw => ?_)
      refine gh_if_eq (tgt := 36) dc_X2_firstTime_30 rfl (fun c7 => ?_) (fun c7 => ?_)
      · replace hw := hw.1 c7
        refine gh_aload_n dc_X2_firstTime_36 rfl ?_
        refine gh_getR (k := 24) (t := 0) dc_X2_firstTime_37 fl_RX2_12 (by decide) (by decide) rfl rfl ?_
        refine gh_callVv (mi' := mi_X5_tickOn) (as := []) (S := []) (k := 6) (t := 28) dc_X2_firstTime_40 ml_RX2_53 ok_X5_tickOn rfl rfl (by decide) (Nat.le_of_ble_eq_true rfl) (by decide) (by decide) rfl rfl (wk_X5_tickOn (by decide) _ _ hw) (fun M9 hw => ?_)
        obtain ⟨y4_10, ey4_10⟩ : ∃ z, z = (x4 + (nI 1)) := ⟨_, rfl⟩
        replace hw := hw _ ey4_10
        refine gh_iinc (v := y4_10) (L' := [some (vR 24 0), some (vR 6 t0), some (vI x2), some (vI x3), some (vI y4_10)]) dc_X2_firstTime_43 rfl ((congrArg (fun z => x4 + z) gc_1).trans ey4_10.symm) (by decide) rfl rfl ?_
        refine gh_goto (tgt := 11) dc_X2_firstTime_46 rfl ?_
        refine gh_drop (pc' := 0) [some (vR 24 0), some (vR 6 t0), some (vI x2), some (vI x3), some (vI y4_10)] ⟨rfl, rfl, rfl, rfl, rfl, trivial⟩ ?_
        exact ih _ _ _ _ hw
      · replace hw := hw.2 c7
        refine gh_iload dc_X2_firstTime_33 rfl ?_
        exact gh_iret dc_X2_firstTime_35 hE rfl hw
theorem wk_X2_firstTime {t0 : Nat} (ht0 : t0 < 29) (Q : Int32 → gh_M → Prop) (a0 : Int32) (a1 : Int32) (M : gh_M) (hw : wp_X2_firstTime t0 a0 a1 M Q) : gh_Calls 5 mi_X2_firstTime [vR 24 0, vR 6 t0, vI a0, vI a1] M (gh_Qi Q) := by
  refine gh_of (by decide) rfl 1 rfl (L0 := [some (vR 24 0), some (vR 6 t0), some (vI a0), some (vI a1), none]) rfl (fun wd x hE => ?_)
  unfold wp_X2_firstTime at hw
  refine gh_aload_n dc_X2_firstTime_0 rfl ?_
  refine gh_getR (k := 24) (t := 0) dc_X2_firstTime_1 fl_RX2_12 (by decide) (by decide) rfl rfl ?_
  refine gh_aload_n dc_X2_firstTime_4 rfl ?_
  refine gh_callVv (mi' := mi_X5_copyFrom) (as := [vR 6 t0]) (S := []) (k := 6) (t := 28) dc_X2_firstTime_5 ml_RX2_38 ok_X5_copyFrom rfl rfl (by decide) (Nat.le_of_ble_eq_true rfl) (by decide) (by decide) rfl rfl (wk_X5_copyFrom (by decide) ht0 _ _ hw) (fun M2 hw => ?_)
  refine gh_iconst (v := (nI 0)) dc_X2_firstTime_8 gc_0 ?_
  refine gh_istore (L' := [some (vR 24 0), some (vR 6 t0), some (vI a0), some (vI a1), some (vI (nI 0))]) dc_X2_firstTime_9 (by decide) rfl rfl ?_
  refine gh_drop (pc' := 0) [some (vR 24 0), some (vR 6 t0), some (vI a0), some (vI a1), some (vI (nI 0))] ⟨rfl, rfl, rfl, rfl, rfl, trivial⟩ ?_
  obtain ⟨k, hw⟩ := hw
  exact lk_X2_firstTime_11 ht0 hE  k _ _ _ _ hw
theorem wk_X6_when   (Q : Int32 → gh_M → Prop) (a0 : Int32) (a1 : Int32) (M : gh_M) (hw : wp_X6_when  a0 a1 M Q) : gh_Calls 6 mi_X6_when [vR 0 0, vI a0, vI a1] M (gh_Qi Q) := by
  refine gh_of (by decide) rfl 0 rfl (L0 := [some (vR 0 0), some (vI a0), some (vI a1)]) rfl (fun wd x hE => ?_)
  unfold wp_X6_when at hw
  refine gh_aload_n dc_X6_when_0 rfl ?_
  refine gh_iload_n dc_X6_when_1 rfl ?_
  refine gh_callVi (mi' := mi_X6_isCar) (as := [vI a0]) (S := []) (k := 0) (t := 0) dc_X6_when_2 ml_RX6_176 ok_X6_isCar rfl rfl (by decide) (Nat.le_of_ble_eq_true rfl) (by decide) (by decide) rfl rfl (wk_X6_isCar _ _ _ hw) (fun r1 M2 hw => ?_)
  refine gh_if_eq (tgt := 17) dc_X6_when_5 rfl (fun c3 => ?_) (fun c3 => ?_)
  · replace hw := hw.1 c3
    refine gh_ldc (v := (-1000001 : Int32)) dc_X6_when_17 tw_281 ?_
    exact gh_iret dc_X6_when_19 hE rfl hw
  · replace hw := hw.2 c3
    refine gh_iload_n dc_X6_when_8 rfl ?_
    refine gh_iconst (v := (nI 0)) dc_X6_when_9 gc_0 ?_
    refine gh_iconst (v := (nI 2)) dc_X6_when_10 gc_2 ?_
    refine gh_callSi (mi' := mi_X6_within) (as := [vI a1, vI (nI 0), vI (nI 2)]) (S := []) dc_X6_when_11 ml_RX6_62 ok_X6_within rfl rfl (by decide) (Nat.le_of_ble_eq_true rfl) (wk_X6_within _ _ _ _ _ hw) (fun r4 M5 hw => ?_)
    refine gh_if_ne (tgt := 20) dc_X6_when_14 rfl (fun c6 => ?_) (fun c6 => ?_)
    · replace hw := hw.1 c6
      refine gh_aload_n dc_X6_when_20 rfl ?_
      refine gh_getR (k := 0) (t := 0) dc_X6_when_21 fl_RX6_46 (by decide) (by decide) rfl rfl ?_
      refine gh_aload_n dc_X6_when_24 rfl ?_
      refine gh_getR (k := 0) (t := 0) dc_X6_when_25 fl_RX6_25 (by decide) (by decide) rfl rfl ?_
      refine gh_iload_n dc_X6_when_28 rfl ?_
      refine gh_iload_n dc_X6_when_29 rfl ?_
      refine gh_callVi (mi' := mi_X2_firstTime) (as := [vR 6 0, vI a0, vI a1]) (S := []) (k := 24) (t := 0) dc_X6_when_30 ml_RX6_239 ok_X2_firstTime rfl rfl (by decide) (Nat.le_of_ble_eq_true rfl) (by decide) (by decide) rfl rfl (wk_X2_firstTime (by decide) _ _ _ _ hw) (fun r7 M8 hw => ?_)
      exact gh_iret dc_X6_when_33 hE rfl hw
    · replace hw := hw.2 c6
      refine gh_ldc (v := (-1000001 : Int32)) dc_X6_when_17 tw_281 ?_
      exact gh_iret dc_X6_when_19 hE rfl hw
theorem lk_X2_firstAllOut_10 {wd : gh_Wd} {x : gh_X} {Q : Int32 → gh_M → Prop} {t0 : Nat} (ht0 : t0 < 29) (hE : gh_E wd (gh_Qi Q) x)   : ∀ (n : Nat) (x2 : Int32) (M : gh_M), wl_X2_firstAllOut_10 t0 Q n x2 M → gh_J mi_X2_firstAllOut 5 wd x M 10 [some (vR 24 0), none, some (vI x2)] [] := by
  intro n
  induction n with
  | zero => intro x2 M hw; exact hw.elim
  | succ n ih =>
    intro x2 M hw
    unfold wl_X2_firstAllOut_10 at hw
    refine gh_iload_n dc_X2_firstAllOut_10 rfl ?_
    refine gh_bipush (v := (nI 60)) dc_X2_firstAllOut_11 gb_60 ?_
    refine gh_icmp_gt (tgt := 41) dc_X2_firstAllOut_13 rfl (fun c3 => ?_) (fun c3 => ?_)
    · replace hw := hw.1 c3
      refine gh_ldc (v := (-1000000 : Int32)) dc_X2_firstAllOut_41 tw_572 ?_
      exact gh_iret dc_X2_firstAllOut_43 hE rfl hw
    · replace hw := hw.2 c3
      refine gh_aload_n dc_X2_firstAllOut_16 rfl ?_
      refine gh_getR (k := 24) (t := 0) dc_X2_firstAllOut_17 fl_RX2_12 (by decide) (by decide) rfl rfl ?_
      refine gh_callVi (mi' := mi_X5_allOut) (as := []) (S := []) (k := 6) (t := 28) dc_X2_firstAllOut_20 ml_RX2_60 ok_X5_allOut rfl rfl (by decide) (Nat.le_of_ble_eq_true rfl) (by decide) (by decide) rfl rfl (wk_X5_allOut (by decide) _ _ hw) (fun r4 M5 hw => ?_)
      refine gh_if_eq (tgt := 28) dc_X2_firstAllOut_23 rfl (fun c6 => ?_) (fun c6 => ?_)
      · replace hw := hw.1 c6
        refine gh_aload_n dc_X2_firstAllOut_28 rfl ?_
        refine gh_getR (k := 24) (t := 0) dc_X2_firstAllOut_29 fl_RX2_12 (by decide) (by decide) rfl rfl ?_
        refine gh_callVv (mi' := mi_X5_tickOn) (as := []) (S := []) (k := 6) (t := 28) dc_X2_firstAllOut_32 ml_RX2_53 ok_X5_tickOn rfl rfl (by decide) (Nat.le_of_ble_eq_true rfl) (by decide) (by decide) rfl rfl (wk_X5_tickOn (by decide) _ _ hw) (fun M8 hw => ?_)
        obtain ⟨y2_9, ey2_9⟩ : ∃ z, z = (x2 + (nI 1)) := ⟨_, rfl⟩
        replace hw := hw _ ey2_9
        refine gh_iinc (v := y2_9) (L' := [some (vR 24 0), none, some (vI y2_9)]) dc_X2_firstAllOut_35 rfl ((congrArg (fun z => x2 + z) gc_1).trans ey2_9.symm) (by decide) rfl rfl ?_
        refine gh_goto (tgt := 10) dc_X2_firstAllOut_38 rfl ?_
        refine gh_drop (pc' := 0) [some (vR 24 0), none, some (vI y2_9)] ⟨rfl, rfl, trivial⟩ ?_
        exact ih _ _ hw
      · replace hw := hw.2 c6
        refine gh_iload_n dc_X2_firstAllOut_26 rfl ?_
        exact gh_iret dc_X2_firstAllOut_27 hE rfl hw
theorem wk_X2_firstAllOut {t0 : Nat} (ht0 : t0 < 29) (Q : Int32 → gh_M → Prop)  (M : gh_M) (hw : wp_X2_firstAllOut t0  M Q) : gh_Calls 5 mi_X2_firstAllOut [vR 24 0, vR 6 t0] M (gh_Qi Q) := by
  refine gh_of (by decide) rfl 1 rfl (L0 := [some (vR 24 0), some (vR 6 t0), none]) rfl (fun wd x hE => ?_)
  unfold wp_X2_firstAllOut at hw
  refine gh_aload_n dc_X2_firstAllOut_0 rfl ?_
  refine gh_getR (k := 24) (t := 0) dc_X2_firstAllOut_1 fl_RX2_12 (by decide) (by decide) rfl rfl ?_
  refine gh_aload_n dc_X2_firstAllOut_4 rfl ?_
  refine gh_callVv (mi' := mi_X5_copyFrom) (as := [vR 6 t0]) (S := []) (k := 6) (t := 28) dc_X2_firstAllOut_5 ml_RX2_38 ok_X5_copyFrom rfl rfl (by decide) (Nat.le_of_ble_eq_true rfl) (by decide) (by decide) rfl rfl (wk_X5_copyFrom (by decide) ht0 _ _ hw) (fun M2 hw => ?_)
  refine gh_iconst (v := (nI 0)) dc_X2_firstAllOut_8 gc_0 ?_
  refine gh_istore_n (L' := [some (vR 24 0), some (vR 6 t0), some (vI (nI 0))]) dc_X2_firstAllOut_9 (by decide) rfl rfl ?_
  refine gh_drop (pc' := 0) [some (vR 24 0), none, some (vI (nI 0))] ⟨rfl, rfl, trivial⟩ ?_
  obtain ⟨k, hw⟩ := hw
  exact lk_X2_firstAllOut_10 ht0 hE  k _ _ hw
theorem wk_X6_over   (Q : Int32 → gh_M → Prop)  (M : gh_M) (hw : wp_X6_over   M Q) : gh_Calls 6 mi_X6_over [vR 0 0] M (gh_Qi Q) := by
  refine gh_of (by decide) rfl 0 rfl (L0 := [some (vR 0 0)]) rfl (fun wd x hE => ?_)
  unfold wp_X6_over at hw
  refine gh_aload_n dc_X6_over_0 rfl ?_
  refine gh_callVi (mi' := mi_X6_hasTrain) (as := []) (S := []) (k := 0) (t := 0) dc_X6_over_1 ml_RX6_142 ok_X6_hasTrain rfl rfl (by decide) (Nat.le_of_ble_eq_true rfl) (by decide) (by decide) rfl rfl (wk_X6_hasTrain _ _ hw) (fun r1 M2 hw => ?_)
  refine gh_if_eq (tgt := 21) dc_X6_over_4 rfl (fun c3 => ?_) (fun c3 => ?_)
  · replace hw := hw.1 c3
    refine gh_ldc (v := (-1000002 : Int32)) dc_X6_over_21 tw_402 ?_
    exact gh_iret dc_X6_over_23 hE rfl hw
  · replace hw := hw.2 c3
    refine gh_aload_n dc_X6_over_7 rfl ?_
    refine gh_getR (k := 0) (t := 0) dc_X6_over_8 fl_RX6_46 (by decide) (by decide) rfl rfl ?_
    refine gh_aload_n dc_X6_over_11 rfl ?_
    refine gh_getR (k := 0) (t := 0) dc_X6_over_12 fl_RX6_25 (by decide) (by decide) rfl rfl ?_
    refine gh_callVi (mi' := mi_X2_firstAllOut) (as := [vR 6 0]) (S := []) (k := 24) (t := 0) dc_X6_over_15 ml_RX6_243 ok_X2_firstAllOut rfl rfl (by decide) (Nat.le_of_ble_eq_true rfl) (by decide) (by decide) rfl rfl (wk_X2_firstAllOut (by decide) _ _ hw) (fun r4 M5 hw => ?_)
    refine gh_goto (tgt := 23) dc_X6_over_18 rfl ?_
    exact gh_iret dc_X6_over_23 hE rfl hw
theorem lk_X2_listWaitingFirst_44 {wd : gh_Wd} {x : gh_X} {Q : Int32 → gh_M → Prop} {t0 : Nat} (ht0 : t0 < 29) (hE : gh_E wd (gh_Qi Q) x)   : ∀ (n : Nat) (x2 : Int32) (x3 : Int32) (x4 : Int32) (M : gh_M), wl_X2_listWaitingFirst_44 t0 Q n x2 x3 x4 M → gh_J mi_X2_listWaitingFirst 1 wd x M 44 [some (vR 24 0), some (vR 6 t0), some (vI x2), some (vI x3), some (vI x4)] [] := by
  intro n
  induction n with
  | zero => intro x2 x3 x4 M hw; exact hw.elim
  | succ n ih =>
    intro x2 x3 x4 M hw
    unfold wl_X2_listWaitingFirst_44 at hw
    refine gh_iload dc_X2_listWaitingFirst_44 rfl ?_
    refine gh_aload_n dc_X2_listWaitingFirst_46 rfl ?_
    refine gh_getI (k := 6) (t := t0) dc_X2_listWaitingFirst_47 fl_RX2_97 (by decide) ht0 rfl rfl ?_
    refine gh_icmp_ge (tgt := 82) dc_X2_listWaitingFirst_50 rfl (fun c2 => ?_) (fun c2 => ?_)
    · replace hw := hw.1 c2
      refine gh_iload_n dc_X2_listWaitingFirst_82 rfl ?_
      exact gh_iret dc_X2_listWaitingFirst_83 hE rfl hw
    · replace hw := hw.2 c2
      refine gh_aload_n dc_X2_listWaitingFirst_53 rfl ?_
      refine gh_getR (k := 6) (t := t0) dc_X2_listWaitingFirst_54 fl_RX2_57 (by decide) ht0 rfl rfl ?_
      refine gh_iload dc_X2_listWaitingFirst_57 rfl ?_
      obtain ⟨h3, hw⟩ := hw
      refine gh_iald (k := 15) (t := t0) dc_X2_listWaitingFirst_59 rfl (by decide) ht0 h3 ?_
      refine gh_bipush (v := (nI 20)) dc_X2_listWaitingFirst_60 gb_20 ?_
      refine gh_icmp_eq (tgt := 76) dc_X2_listWaitingFirst_62 rfl (fun c4 => ?_) (fun c4 => ?_)
      · replace hw := hw.1 c4
        obtain ⟨y4_5, ey4_5⟩ : ∃ z, z = (x4 + (nI 1)) := ⟨_, rfl⟩
        replace hw := hw _ ey4_5
        refine gh_iinc (v := y4_5) (L' := [some (vR 24 0), some (vR 6 t0), some (vI x2), some (vI x3), some (vI y4_5)]) dc_X2_listWaitingFirst_76 rfl ((congrArg (fun z => x4 + z) gc_1).trans ey4_5.symm) (by decide) rfl rfl ?_
        refine gh_goto (tgt := 44) dc_X2_listWaitingFirst_79 rfl ?_
        refine gh_drop (pc' := 0) [some (vR 24 0), some (vR 6 t0), some (vI x2), some (vI x3), some (vI y4_5)] ⟨rfl, rfl, rfl, rfl, rfl, trivial⟩ ?_
        exact ih _ _ _ _ hw
      · replace hw := hw.2 c4
        refine gh_aload_n dc_X2_listWaitingFirst_65 rfl ?_
        refine gh_getR (k := 24) (t := 0) dc_X2_listWaitingFirst_66 fl_RX2_25 (by decide) (by decide) rfl rfl ?_
        refine gh_iload_n dc_X2_listWaitingFirst_69 rfl ?_
        refine gh_iload dc_X2_listWaitingFirst_70 rfl ?_
        obtain ⟨h6, hw⟩ := hw
        refine gh_iast (k := 27) (t := 0) dc_X2_listWaitingFirst_72 rfl (by decide) (by decide) h6 ?_
        obtain ⟨M7, eM7⟩ : ∃ z, z = (gh_st M 27 0 x3.toNatClampNeg x4) := ⟨_, rfl⟩
        rw [← eM7]
        replace hw := hw _ eM7
        obtain ⟨y3_8, ey3_8⟩ : ∃ z, z = (x3 + (nI 1)) := ⟨_, rfl⟩
        replace hw := hw _ ey3_8
        refine gh_iinc (v := y3_8) (L' := [some (vR 24 0), some (vR 6 t0), some (vI x2), some (vI y3_8), some (vI x4)]) dc_X2_listWaitingFirst_73 rfl ((congrArg (fun z => x3 + z) gc_1).trans ey3_8.symm) (by decide) rfl rfl ?_
        obtain ⟨y4_9, ey4_9⟩ : ∃ z, z = (x4 + (nI 1)) := ⟨_, rfl⟩
        replace hw := hw _ ey4_9
        refine gh_iinc (v := y4_9) (L' := [some (vR 24 0), some (vR 6 t0), some (vI x2), some (vI y3_8), some (vI y4_9)]) dc_X2_listWaitingFirst_76 rfl ((congrArg (fun z => x4 + z) gc_1).trans ey4_9.symm) (by decide) rfl rfl ?_
        refine gh_goto (tgt := 44) dc_X2_listWaitingFirst_79 rfl ?_
        refine gh_drop (pc' := 0) [some (vR 24 0), some (vR 6 t0), some (vI x2), some (vI y3_8), some (vI y4_9)] ⟨rfl, rfl, rfl, rfl, rfl, trivial⟩ ?_
        exact ih _ _ _ _ hw
theorem lk_X2_listWaitingFirst_4 {wd : gh_Wd} {x : gh_X} {Q : Int32 → gh_M → Prop} {t0 : Nat} (ht0 : t0 < 29) (hE : gh_E wd (gh_Qi Q) x)   : ∀ (n : Nat) (x2 : Int32) (x3 : Int32) (M : gh_M), wl_X2_listWaitingFirst_4 t0 Q n x2 x3 M → gh_J mi_X2_listWaitingFirst 1 wd x M 4 [some (vR 24 0), some (vR 6 t0), some (vI x2), some (vI x3), none] [] := by
  intro n
  induction n with
  | zero => intro x2 x3 M hw; exact hw.elim
  | succ n ih =>
    intro x2 x3 M hw
    unfold wl_X2_listWaitingFirst_4 at hw
    refine gh_iload_n dc_X2_listWaitingFirst_4 rfl ?_
    refine gh_aload_n dc_X2_listWaitingFirst_5 rfl ?_
    refine gh_getI (k := 6) (t := t0) dc_X2_listWaitingFirst_6 fl_RX2_97 (by decide) ht0 rfl rfl ?_
    refine gh_icmp_ge (tgt := 39) dc_X2_listWaitingFirst_9 rfl (fun c1 => ?_) (fun c1 => ?_)
    · replace hw := hw.1 c1
      refine gh_iload_n dc_X2_listWaitingFirst_39 rfl ?_
      refine gh_istore_n (L' := [some (vR 24 0), some (vR 6 t0), some (vI x2), some (vI x2), none]) dc_X2_listWaitingFirst_40 (by decide) rfl rfl ?_
      refine gh_iconst (v := (nI 0)) dc_X2_listWaitingFirst_41 gc_0 ?_
      refine gh_istore (L' := [some (vR 24 0), some (vR 6 t0), some (vI x2), some (vI x2), some (vI (nI 0))]) dc_X2_listWaitingFirst_42 (by decide) rfl rfl ?_
      refine gh_drop (pc' := 0) [some (vR 24 0), some (vR 6 t0), some (vI x2), some (vI x2), some (vI (nI 0))] ⟨rfl, rfl, rfl, rfl, rfl, trivial⟩ ?_
      obtain ⟨k, hw⟩ := hw
      exact lk_X2_listWaitingFirst_44 ht0 hE  k _ _ _ _ hw
    · replace hw := hw.2 c1
      refine gh_aload_n dc_X2_listWaitingFirst_12 rfl ?_
      refine gh_getR (k := 6) (t := t0) dc_X2_listWaitingFirst_13 fl_RX2_57 (by decide) ht0 rfl rfl ?_
      refine gh_iload_n dc_X2_listWaitingFirst_16 rfl ?_
      obtain ⟨h10, hw⟩ := hw
      refine gh_iald (k := 15) (t := t0) dc_X2_listWaitingFirst_17 rfl (by decide) ht0 h10 ?_
      refine gh_bipush (v := (nI 20)) dc_X2_listWaitingFirst_18 gb_20 ?_
      refine gh_icmp_ne (tgt := 33) dc_X2_listWaitingFirst_20 rfl (fun c11 => ?_) (fun c11 => ?_)
      · replace hw := hw.1 c11
        obtain ⟨y3_12, ey3_12⟩ : ∃ z, z = (x3 + (nI 1)) := ⟨_, rfl⟩
        replace hw := hw _ ey3_12
        refine gh_iinc (v := y3_12) (L' := [some (vR 24 0), some (vR 6 t0), some (vI x2), some (vI y3_12), none]) dc_X2_listWaitingFirst_33 rfl ((congrArg (fun z => x3 + z) gc_1).trans ey3_12.symm) (by decide) rfl rfl ?_
        refine gh_goto (tgt := 4) dc_X2_listWaitingFirst_36 rfl ?_
        refine gh_drop (pc' := 0) [some (vR 24 0), some (vR 6 t0), some (vI x2), some (vI y3_12), none] ⟨rfl, rfl, rfl, rfl, trivial⟩ ?_
        exact ih _ _ _ hw
      · replace hw := hw.2 c11
        refine gh_aload_n dc_X2_listWaitingFirst_23 rfl ?_
        refine gh_getR (k := 24) (t := 0) dc_X2_listWaitingFirst_24 fl_RX2_25 (by decide) (by decide) rfl rfl ?_
        refine gh_iload_n dc_X2_listWaitingFirst_27 rfl ?_
        refine gh_iload_n dc_X2_listWaitingFirst_28 rfl ?_
        obtain ⟨h13, hw⟩ := hw
        refine gh_iast (k := 27) (t := 0) dc_X2_listWaitingFirst_29 rfl (by decide) (by decide) h13 ?_
        obtain ⟨M14, eM14⟩ : ∃ z, z = (gh_st M 27 0 x2.toNatClampNeg x3) := ⟨_, rfl⟩
        rw [← eM14]
        replace hw := hw _ eM14
        obtain ⟨y2_15, ey2_15⟩ : ∃ z, z = (x2 + (nI 1)) := ⟨_, rfl⟩
        replace hw := hw _ ey2_15
        refine gh_iinc (v := y2_15) (L' := [some (vR 24 0), some (vR 6 t0), some (vI y2_15), some (vI x3), none]) dc_X2_listWaitingFirst_30 rfl ((congrArg (fun z => x2 + z) gc_1).trans ey2_15.symm) (by decide) rfl rfl ?_
        obtain ⟨y3_16, ey3_16⟩ : ∃ z, z = (x3 + (nI 1)) := ⟨_, rfl⟩
        replace hw := hw _ ey3_16
        refine gh_iinc (v := y3_16) (L' := [some (vR 24 0), some (vR 6 t0), some (vI y2_15), some (vI y3_16), none]) dc_X2_listWaitingFirst_33 rfl ((congrArg (fun z => x3 + z) gc_1).trans ey3_16.symm) (by decide) rfl rfl ?_
        refine gh_goto (tgt := 4) dc_X2_listWaitingFirst_36 rfl ?_
        refine gh_drop (pc' := 0) [some (vR 24 0), some (vR 6 t0), some (vI y2_15), some (vI y3_16), none] ⟨rfl, rfl, rfl, rfl, trivial⟩ ?_
        exact ih _ _ _ hw
theorem wk_X2_listWaitingFirst {t0 : Nat} (ht0 : t0 < 29) (Q : Int32 → gh_M → Prop)  (M : gh_M) (hw : wp_X2_listWaitingFirst t0  M Q) : gh_Calls 1 mi_X2_listWaitingFirst [vR 24 0, vR 6 t0] M (gh_Qi Q) := by
  refine gh_of (by decide) rfl 3 rfl (L0 := [some (vR 24 0), some (vR 6 t0), none, none, none]) rfl (fun wd x hE => ?_)
  unfold wp_X2_listWaitingFirst at hw
  refine gh_iconst (v := (nI 0)) dc_X2_listWaitingFirst_0 gc_0 ?_
  refine gh_istore_n (L' := [some (vR 24 0), some (vR 6 t0), some (vI (nI 0)), none, none]) dc_X2_listWaitingFirst_1 (by decide) rfl rfl ?_
  refine gh_iconst (v := (nI 0)) dc_X2_listWaitingFirst_2 gc_0 ?_
  refine gh_istore_n (L' := [some (vR 24 0), some (vR 6 t0), some (vI (nI 0)), some (vI (nI 0)), none]) dc_X2_listWaitingFirst_3 (by decide) rfl rfl ?_
  refine gh_drop (pc' := 0) [some (vR 24 0), some (vR 6 t0), some (vI (nI 0)), some (vI (nI 0)), none] ⟨rfl, rfl, rfl, rfl, trivial⟩ ?_
  obtain ⟨k, hw⟩ := hw
  exact lk_X2_listWaitingFirst_4 ht0 hE  k _ _ _ hw
theorem lk_X2_mergeBest_8 {wd : gh_Wd} {x : gh_X} {Q : gh_M → Prop}   (hE : gh_E wd (gh_Qv Q) x)   : ∀ (n : Nat) (x1 : Int32) (x2 : Int32) (x3 : Int32) (x4 : Int32) (x5 : Int32) (M : gh_M), wl_X2_mergeBest_8 Q n x1 x2 x3 x4 x5 M → gh_J mi_X2_mergeBest 1 wd x M 8 [some (vR 24 0), some (vI x1), some (vI x2), some (vI x3), some (vI x4), some (vI x5)] [] := by
  intro n
  induction n with
  | zero => intro x1 x2 x3 x4 x5 M hw; exact hw.elim
  | succ n ih =>
    intro x1 x2 x3 x4 x5 M hw
    unfold wl_X2_mergeBest_8 at hw
    refine gh_iload dc_X2_mergeBest_8 rfl ?_
    refine gh_iload_n dc_X2_mergeBest_10 rfl ?_
    refine gh_icmp_ge (tgt := 83) dc_X2_mergeBest_11 rfl (fun c1 => ?_) (fun c1 => ?_)
    · replace hw := hw.1 c1
      exact gh_vret dc_X2_mergeBest_83 hE rfl hw
    · replace hw := hw.2 c1
      refine gh_iload dc_X2_mergeBest_14 rfl ?_
      refine gh_iload_n dc_X2_mergeBest_16 rfl ?_
      refine gh_icmp_ge (tgt := 41) dc_X2_mergeBest_17 rfl (fun c2 => ?_) (fun c2 => ?_)
      · replace hw := hw.1 c2
        refine gh_aload_n dc_X2_mergeBest_41 rfl ?_
        refine gh_getR (k := 24) (t := 0) dc_X2_mergeBest_42 fl_RX2_22 (by decide) (by decide) rfl rfl ?_
        refine gh_iload dc_X2_mergeBest_45 rfl ?_
        refine gh_aload_n dc_X2_mergeBest_47 rfl ?_
        refine gh_getR (k := 24) (t := 0) dc_X2_mergeBest_48 fl_RX2_28 (by decide) (by decide) rfl rfl ?_
        refine gh_iload_n dc_X2_mergeBest_51 rfl ?_
        obtain ⟨h3, hw⟩ := hw
        refine gh_iald (k := 28) (t := 0) dc_X2_mergeBest_52 rfl (by decide) (by decide) h3 ?_
        obtain ⟨h4, hw⟩ := hw
        refine gh_iast (k := 26) (t := 0) dc_X2_mergeBest_53 rfl (by decide) (by decide) h4 ?_
        obtain ⟨M5, eM5⟩ : ∃ z, z = (gh_st M 26 0 x5.toNatClampNeg (M 28 0 x3.toNatClampNeg)) := ⟨_, rfl⟩
        rw [← eM5]
        replace hw := hw _ eM5
        obtain ⟨y3_6, ey3_6⟩ : ∃ z, z = (x3 + (nI 1)) := ⟨_, rfl⟩
        replace hw := hw _ ey3_6
        refine gh_iinc (v := y3_6) (L' := [some (vR 24 0), some (vI x1), some (vI x2), some (vI y3_6), some (vI x4), some (vI x5)]) dc_X2_mergeBest_54 rfl ((congrArg (fun z => x3 + z) gc_1).trans ey3_6.symm) (by decide) rfl rfl ?_
        refine gh_goto (tgt := 77) dc_X2_mergeBest_57 rfl ?_
        obtain ⟨y5_7, ey5_7⟩ : ∃ z, z = (x5 + (nI 1)) := ⟨_, rfl⟩
        replace hw := hw _ ey5_7
        refine gh_iinc (v := y5_7) (L' := [some (vR 24 0), some (vI x1), some (vI x2), some (vI y3_6), some (vI x4), some (vI y5_7)]) dc_X2_mergeBest_77 rfl ((congrArg (fun z => x5 + z) gc_1).trans ey5_7.symm) (by decide) rfl rfl ?_
        refine gh_goto (tgt := 8) dc_X2_mergeBest_80 rfl ?_
        refine gh_drop (pc' := 0) [some (vR 24 0), some (vI x1), some (vI x2), some (vI y3_6), some (vI x4), some (vI y5_7)] ⟨rfl, rfl, rfl, rfl, rfl, rfl, trivial⟩ ?_
        exact ih _ _ _ _ _ _ hw
      · replace hw := hw.2 c2
        refine gh_iload_n dc_X2_mergeBest_20 rfl ?_
        refine gh_iload_n dc_X2_mergeBest_21 rfl ?_
        refine gh_icmp_ge (tgt := 60) dc_X2_mergeBest_22 rfl (fun c8 => ?_) (fun c8 => ?_)
        · replace hw := hw.1 c8
          refine gh_aload_n dc_X2_mergeBest_60 rfl ?_
          refine gh_getR (k := 24) (t := 0) dc_X2_mergeBest_61 fl_RX2_22 (by decide) (by decide) rfl rfl ?_
          refine gh_iload dc_X2_mergeBest_64 rfl ?_
          refine gh_aload_n dc_X2_mergeBest_66 rfl ?_
          refine gh_getR (k := 24) (t := 0) dc_X2_mergeBest_67 fl_RX2_28 (by decide) (by decide) rfl rfl ?_
          refine gh_iload dc_X2_mergeBest_70 rfl ?_
          obtain ⟨h9, hw⟩ := hw
          refine gh_iald (k := 28) (t := 0) dc_X2_mergeBest_72 rfl (by decide) (by decide) h9 ?_
          obtain ⟨h10, hw⟩ := hw
          refine gh_iast (k := 26) (t := 0) dc_X2_mergeBest_73 rfl (by decide) (by decide) h10 ?_
          obtain ⟨M11, eM11⟩ : ∃ z, z = (gh_st M 26 0 x5.toNatClampNeg (M 28 0 x4.toNatClampNeg)) := ⟨_, rfl⟩
          rw [← eM11]
          replace hw := hw _ eM11
          obtain ⟨y4_12, ey4_12⟩ : ∃ z, z = (x4 + (nI 1)) := ⟨_, rfl⟩
          replace hw := hw _ ey4_12
          refine gh_iinc (v := y4_12) (L' := [some (vR 24 0), some (vI x1), some (vI x2), some (vI x3), some (vI y4_12), some (vI x5)]) dc_X2_mergeBest_74 rfl ((congrArg (fun z => x4 + z) gc_1).trans ey4_12.symm) (by decide) rfl rfl ?_
          obtain ⟨y5_13, ey5_13⟩ : ∃ z, z = (x5 + (nI 1)) := ⟨_, rfl⟩
          replace hw := hw _ ey5_13
          refine gh_iinc (v := y5_13) (L' := [some (vR 24 0), some (vI x1), some (vI x2), some (vI x3), some (vI y4_12), some (vI y5_13)]) dc_X2_mergeBest_77 rfl ((congrArg (fun z => x5 + z) gc_1).trans ey5_13.symm) (by decide) rfl rfl ?_
          refine gh_goto (tgt := 8) dc_X2_mergeBest_80 rfl ?_
          refine gh_drop (pc' := 0) [some (vR 24 0), some (vI x1), some (vI x2), some (vI x3), some (vI y4_12), some (vI y5_13)] ⟨rfl, rfl, rfl, rfl, rfl, rfl, trivial⟩ ?_
          exact ih _ _ _ _ _ _ hw
        · replace hw := hw.2 c8
          refine gh_aload_n dc_X2_mergeBest_25 rfl ?_
          refine gh_getR (k := 24) (t := 0) dc_X2_mergeBest_26 fl_RX2_28 (by decide) (by decide) rfl rfl ?_
          refine gh_iload_n dc_X2_mergeBest_29 rfl ?_
          obtain ⟨h14, hw⟩ := hw
          refine gh_iald (k := 28) (t := 0) dc_X2_mergeBest_30 rfl (by decide) (by decide) h14 ?_
          refine gh_aload_n dc_X2_mergeBest_31 rfl ?_
          refine gh_getR (k := 24) (t := 0) dc_X2_mergeBest_32 fl_RX2_28 (by decide) (by decide) rfl rfl ?_
          refine gh_iload dc_X2_mergeBest_35 rfl ?_
          obtain ⟨h15, hw⟩ := hw
          refine gh_iald (k := 28) (t := 0) dc_X2_mergeBest_37 rfl (by decide) (by decide) h15 ?_
          refine gh_icmp_ge (tgt := 60) dc_X2_mergeBest_38 rfl (fun c16 => ?_) (fun c16 => ?_)
          · replace hw := hw.1 c16
            refine gh_aload_n dc_X2_mergeBest_60 rfl ?_
            refine gh_getR (k := 24) (t := 0) dc_X2_mergeBest_61 fl_RX2_22 (by decide) (by decide) rfl rfl ?_
            refine gh_iload dc_X2_mergeBest_64 rfl ?_
            refine gh_aload_n dc_X2_mergeBest_66 rfl ?_
            refine gh_getR (k := 24) (t := 0) dc_X2_mergeBest_67 fl_RX2_28 (by decide) (by decide) rfl rfl ?_
            refine gh_iload dc_X2_mergeBest_70 rfl ?_
            obtain ⟨h17, hw⟩ := hw
            refine gh_iald (k := 28) (t := 0) dc_X2_mergeBest_72 rfl (by decide) (by decide) h17 ?_
            obtain ⟨h18, hw⟩ := hw
            refine gh_iast (k := 26) (t := 0) dc_X2_mergeBest_73 rfl (by decide) (by decide) h18 ?_
            obtain ⟨M19, eM19⟩ : ∃ z, z = (gh_st M 26 0 x5.toNatClampNeg (M 28 0 x4.toNatClampNeg)) := ⟨_, rfl⟩
            rw [← eM19]
            replace hw := hw _ eM19
            obtain ⟨y4_20, ey4_20⟩ : ∃ z, z = (x4 + (nI 1)) := ⟨_, rfl⟩
            replace hw := hw _ ey4_20
            refine gh_iinc (v := y4_20) (L' := [some (vR 24 0), some (vI x1), some (vI x2), some (vI x3), some (vI y4_20), some (vI x5)]) dc_X2_mergeBest_74 rfl ((congrArg (fun z => x4 + z) gc_1).trans ey4_20.symm) (by decide) rfl rfl ?_
            obtain ⟨y5_21, ey5_21⟩ : ∃ z, z = (x5 + (nI 1)) := ⟨_, rfl⟩
            replace hw := hw _ ey5_21
            refine gh_iinc (v := y5_21) (L' := [some (vR 24 0), some (vI x1), some (vI x2), some (vI x3), some (vI y4_20), some (vI y5_21)]) dc_X2_mergeBest_77 rfl ((congrArg (fun z => x5 + z) gc_1).trans ey5_21.symm) (by decide) rfl rfl ?_
            refine gh_goto (tgt := 8) dc_X2_mergeBest_80 rfl ?_
            refine gh_drop (pc' := 0) [some (vR 24 0), some (vI x1), some (vI x2), some (vI x3), some (vI y4_20), some (vI y5_21)] ⟨rfl, rfl, rfl, rfl, rfl, rfl, trivial⟩ ?_
            exact ih _ _ _ _ _ _ hw
          · replace hw := hw.2 c16
            refine gh_aload_n dc_X2_mergeBest_41 rfl ?_
            refine gh_getR (k := 24) (t := 0) dc_X2_mergeBest_42 fl_RX2_22 (by decide) (by decide) rfl rfl ?_
            refine gh_iload dc_X2_mergeBest_45 rfl ?_
            refine gh_aload_n dc_X2_mergeBest_47 rfl ?_
            refine gh_getR (k := 24) (t := 0) dc_X2_mergeBest_48 fl_RX2_28 (by decide) (by decide) rfl rfl ?_
            refine gh_iload_n dc_X2_mergeBest_51 rfl ?_
            obtain ⟨h22, hw⟩ := hw
            refine gh_iald (k := 28) (t := 0) dc_X2_mergeBest_52 rfl (by decide) (by decide) h22 ?_
            obtain ⟨h23, hw⟩ := hw
            refine gh_iast (k := 26) (t := 0) dc_X2_mergeBest_53 rfl (by decide) (by decide) h23 ?_
            obtain ⟨M24, eM24⟩ : ∃ z, z = (gh_st M 26 0 x5.toNatClampNeg (M 28 0 x3.toNatClampNeg)) := ⟨_, rfl⟩
            rw [← eM24]
            replace hw := hw _ eM24
            obtain ⟨y3_25, ey3_25⟩ : ∃ z, z = (x3 + (nI 1)) := ⟨_, rfl⟩
            replace hw := hw _ ey3_25
            refine gh_iinc (v := y3_25) (L' := [some (vR 24 0), some (vI x1), some (vI x2), some (vI y3_25), some (vI x4), some (vI x5)]) dc_X2_mergeBest_54 rfl ((congrArg (fun z => x3 + z) gc_1).trans ey3_25.symm) (by decide) rfl rfl ?_
            refine gh_goto (tgt := 77) dc_X2_mergeBest_57 rfl ?_
            obtain ⟨y5_26, ey5_26⟩ : ∃ z, z = (x5 + (nI 1)) := ⟨_, rfl⟩
            replace hw := hw _ ey5_26
            refine gh_iinc (v := y5_26) (L' := [some (vR 24 0), some (vI x1), some (vI x2), some (vI y3_25), some (vI x4), some (vI y5_26)]) dc_X2_mergeBest_77 rfl ((congrArg (fun z => x5 + z) gc_1).trans ey5_26.symm) (by decide) rfl rfl ?_
            refine gh_goto (tgt := 8) dc_X2_mergeBest_80 rfl ?_
            refine gh_drop (pc' := 0) [some (vR 24 0), some (vI x1), some (vI x2), some (vI y3_25), some (vI x4), some (vI y5_26)] ⟨rfl, rfl, rfl, rfl, rfl, rfl, trivial⟩ ?_
            exact ih _ _ _ _ _ _ hw
theorem wk_X2_mergeBest   (Q : gh_M → Prop) (a0 : Int32) (a1 : Int32) (M : gh_M) (hw : wp_X2_mergeBest  a0 a1 M Q) : gh_Calls 1 mi_X2_mergeBest [vR 24 0, vI a0, vI a1] M (gh_Qv Q) := by
  refine gh_of (by decide) rfl 3 rfl (L0 := [some (vR 24 0), some (vI a0), some (vI a1), none, none, none]) rfl (fun wd x hE => ?_)
  unfold wp_X2_mergeBest at hw
  refine gh_iconst (v := (nI 0)) dc_X2_mergeBest_0 gc_0 ?_
  refine gh_istore_n (L' := [some (vR 24 0), some (vI a0), some (vI a1), some (vI (nI 0)), none, none]) dc_X2_mergeBest_1 (by decide) rfl rfl ?_
  refine gh_iload_n dc_X2_mergeBest_2 rfl ?_
  refine gh_istore (L' := [some (vR 24 0), some (vI a0), some (vI a1), some (vI (nI 0)), some (vI a0), none]) dc_X2_mergeBest_3 (by decide) rfl rfl ?_
  refine gh_iconst (v := (nI 0)) dc_X2_mergeBest_5 gc_0 ?_
  refine gh_istore (L' := [some (vR 24 0), some (vI a0), some (vI a1), some (vI (nI 0)), some (vI a0), some (vI (nI 0))]) dc_X2_mergeBest_6 (by decide) rfl rfl ?_
  refine gh_drop (pc' := 0) [some (vR 24 0), some (vI a0), some (vI a1), some (vI (nI 0)), some (vI a0), some (vI (nI 0))] ⟨rfl, rfl, rfl, rfl, rfl, rfl, trivial⟩ ?_
  obtain ⟨k, hw⟩ := hw
  exact lk_X2_mergeBest_8  hE  k _ _ _ _ _ _ hw
theorem wk_J6_bitCount_0f7a4   (Q : Int32 → gh_M → Prop) (a0 : Int32) (M : gh_M) (hw : wp_J6_bitCount_0f7a4  a0 M Q) : gh_Calls 1 mi_J6_bitCount_0f7a4 [vI a0] M (gh_Qi Q) := by
  refine gh_of (by decide) rfl 0 rfl (L0 := [some (vI a0)]) rfl (fun wd x hE => ?_)
  unfold wp_J6_bitCount_0f7a4 at hw
  refine gh_iload_n dc_J6_bitCount_0f7a4_0 rfl ?_
  refine gh_iload_n dc_J6_bitCount_0f7a4_1 rfl ?_
  refine gh_iconst (v := (nI 1)) dc_J6_bitCount_0f7a4_2 gc_1 ?_
  refine gh_iushr dc_J6_bitCount_0f7a4_3 ?_
  refine gh_ldcw (v := (1431655765 : Int32)) dc_J6_bitCount_0f7a4_4 tw_600 ?_
  refine gh_iand dc_J6_bitCount_0f7a4_7 ?_
  refine gh_isub dc_J6_bitCount_0f7a4_8 ?_
  obtain ⟨y0_1, ey0_1⟩ : ∃ z, z = (a0 - ((a0.toUInt32 >>> ((nI 1).toUInt32 &&& Int32.toUInt32 31)).toInt32 &&& (1431655765 : Int32))) := ⟨_, rfl⟩
  rw [← ey0_1]
  replace hw := hw _ ey0_1
  refine gh_istore_n (L' := [some (vI y0_1)]) dc_J6_bitCount_0f7a4_9 (by decide) rfl rfl ?_
  refine gh_iload_n dc_J6_bitCount_0f7a4_10 rfl ?_
  refine gh_ldcw (v := (858993459 : Int32)) dc_J6_bitCount_0f7a4_11 tw_601 ?_
  refine gh_iand dc_J6_bitCount_0f7a4_14 ?_
  refine gh_iload_n dc_J6_bitCount_0f7a4_15 rfl ?_
  refine gh_iconst (v := (nI 2)) dc_J6_bitCount_0f7a4_16 gc_2 ?_
  refine gh_iushr dc_J6_bitCount_0f7a4_17 ?_
  refine gh_ldcw (v := (858993459 : Int32)) dc_J6_bitCount_0f7a4_18 tw_601 ?_
  refine gh_iand dc_J6_bitCount_0f7a4_21 ?_
  refine gh_iadd dc_J6_bitCount_0f7a4_22 ?_
  obtain ⟨y0_2, ey0_2⟩ : ∃ z, z = ((y0_1 &&& (858993459 : Int32)) + ((y0_1.toUInt32 >>> ((nI 2).toUInt32 &&& Int32.toUInt32 31)).toInt32 &&& (858993459 : Int32))) := ⟨_, rfl⟩
  rw [← ey0_2]
  replace hw := hw _ ey0_2
  refine gh_istore_n (L' := [some (vI y0_2)]) dc_J6_bitCount_0f7a4_23 (by decide) rfl rfl ?_
  refine gh_iload_n dc_J6_bitCount_0f7a4_24 rfl ?_
  refine gh_iload_n dc_J6_bitCount_0f7a4_25 rfl ?_
  refine gh_iconst (v := (nI 4)) dc_J6_bitCount_0f7a4_26 gc_4 ?_
  refine gh_iushr dc_J6_bitCount_0f7a4_27 ?_
  refine gh_iadd dc_J6_bitCount_0f7a4_28 ?_
  refine gh_ldcw (v := (252645135 : Int32)) dc_J6_bitCount_0f7a4_29 tw_602 ?_
  refine gh_iand dc_J6_bitCount_0f7a4_32 ?_
  obtain ⟨y0_3, ey0_3⟩ : ∃ z, z = ((y0_2 + (y0_2.toUInt32 >>> ((nI 4).toUInt32 &&& Int32.toUInt32 31)).toInt32) &&& (252645135 : Int32)) := ⟨_, rfl⟩
  rw [← ey0_3]
  replace hw := hw _ ey0_3
  refine gh_istore_n (L' := [some (vI y0_3)]) dc_J6_bitCount_0f7a4_33 (by decide) rfl rfl ?_
  refine gh_iload_n dc_J6_bitCount_0f7a4_34 rfl ?_
  refine gh_iload_n dc_J6_bitCount_0f7a4_35 rfl ?_
  refine gh_bipush (v := (nI 8)) dc_J6_bitCount_0f7a4_36 gb_8 ?_
  refine gh_iushr dc_J6_bitCount_0f7a4_38 ?_
  refine gh_iadd dc_J6_bitCount_0f7a4_39 ?_
  obtain ⟨y0_4, ey0_4⟩ : ∃ z, z = (y0_3 + (y0_3.toUInt32 >>> ((nI 8).toUInt32 &&& Int32.toUInt32 31)).toInt32) := ⟨_, rfl⟩
  rw [← ey0_4]
  replace hw := hw _ ey0_4
  refine gh_istore_n (L' := [some (vI y0_4)]) dc_J6_bitCount_0f7a4_40 (by decide) rfl rfl ?_
  refine gh_iload_n dc_J6_bitCount_0f7a4_41 rfl ?_
  refine gh_iload_n dc_J6_bitCount_0f7a4_42 rfl ?_
  refine gh_bipush (v := (nI 16)) dc_J6_bitCount_0f7a4_43 gb_16 ?_
  refine gh_iushr dc_J6_bitCount_0f7a4_45 ?_
  refine gh_iadd dc_J6_bitCount_0f7a4_46 ?_
  obtain ⟨y0_5, ey0_5⟩ : ∃ z, z = (y0_4 + (y0_4.toUInt32 >>> ((nI 16).toUInt32 &&& Int32.toUInt32 31)).toInt32) := ⟨_, rfl⟩
  rw [← ey0_5]
  replace hw := hw _ ey0_5
  refine gh_istore_n (L' := [some (vI y0_5)]) dc_J6_bitCount_0f7a4_47 (by decide) rfl rfl ?_
  refine gh_iload_n dc_J6_bitCount_0f7a4_48 rfl ?_
  refine gh_bipush (v := (nI 63)) dc_J6_bitCount_0f7a4_49 gb_63 ?_
  refine gh_iand dc_J6_bitCount_0f7a4_51 ?_
  exact gh_iret dc_J6_bitCount_0f7a4_52 hE rfl hw
theorem wk_X2_swapTried   (Q : gh_M → Prop) (a0 : Int32) (a1 : Int32) (M : gh_M) (hw : wp_X2_swapTried  a0 a1 M Q) : gh_Calls 1 mi_X2_swapTried [vR 24 0, vI a0, vI a1] M (gh_Qv Q) := by
  refine gh_of (by decide) rfl 1 rfl (L0 := [some (vR 24 0), some (vI a0), some (vI a1), none]) rfl (fun wd x hE => ?_)
  unfold wp_X2_swapTried at hw
  refine gh_aload_n dc_X2_swapTried_0 rfl ?_
  refine gh_getR (k := 24) (t := 0) dc_X2_swapTried_1 fl_RX2_25 (by decide) (by decide) rfl rfl ?_
  refine gh_iload_n dc_X2_swapTried_4 rfl ?_
  obtain ⟨h1, hw⟩ := hw
  refine gh_iald (k := 27) (t := 0) dc_X2_swapTried_5 rfl (by decide) (by decide) h1 ?_
  obtain ⟨y3_2, ey3_2⟩ : ∃ z, z = (M 27 0 a0.toNatClampNeg) := ⟨_, rfl⟩
  rw [← ey3_2]
  replace hw := hw _ ey3_2
  refine gh_istore_n (L' := [some (vR 24 0), some (vI a0), some (vI a1), some (vI y3_2)]) dc_X2_swapTried_6 (by decide) rfl rfl ?_
  refine gh_aload_n dc_X2_swapTried_7 rfl ?_
  refine gh_getR (k := 24) (t := 0) dc_X2_swapTried_8 fl_RX2_25 (by decide) (by decide) rfl rfl ?_
  refine gh_iload_n dc_X2_swapTried_11 rfl ?_
  refine gh_aload_n dc_X2_swapTried_12 rfl ?_
  refine gh_getR (k := 24) (t := 0) dc_X2_swapTried_13 fl_RX2_25 (by decide) (by decide) rfl rfl ?_
  refine gh_iload_n dc_X2_swapTried_16 rfl ?_
  obtain ⟨h3, hw⟩ := hw
  refine gh_iald (k := 27) (t := 0) dc_X2_swapTried_17 rfl (by decide) (by decide) h3 ?_
  obtain ⟨h4, hw⟩ := hw
  refine gh_iast (k := 27) (t := 0) dc_X2_swapTried_18 rfl (by decide) (by decide) h4 ?_
  obtain ⟨M5, eM5⟩ : ∃ z, z = (gh_st M 27 0 a0.toNatClampNeg (M 27 0 a1.toNatClampNeg)) := ⟨_, rfl⟩
  rw [← eM5]
  replace hw := hw _ eM5
  refine gh_aload_n dc_X2_swapTried_19 rfl ?_
  refine gh_getR (k := 24) (t := 0) dc_X2_swapTried_20 fl_RX2_25 (by decide) (by decide) rfl rfl ?_
  refine gh_iload_n dc_X2_swapTried_23 rfl ?_
  refine gh_iload_n dc_X2_swapTried_24 rfl ?_
  obtain ⟨h6, hw⟩ := hw
  refine gh_iast (k := 27) (t := 0) dc_X2_swapTried_25 rfl (by decide) (by decide) h6 ?_
  obtain ⟨M7, eM7⟩ : ∃ z, z = (gh_st M5 27 0 a1.toNatClampNeg y3_2) := ⟨_, rfl⟩
  rw [← eM7]
  replace hw := hw _ eM7
  exact gh_vret dc_X2_swapTried_26 hE rfl hw
theorem lk_X2_nextOrder_83 {wd : gh_Wd} {x : gh_X} {Q : Int32 → gh_M → Prop}   (hE : gh_E wd (gh_Qi Q) x)   : ∀ (n : Nat) (x4 : Int32) (x5 : Int32) (M : gh_M), wl_X2_nextOrder_83 Q n x4 x5 M → gh_J mi_X2_nextOrder 2 wd x M 83 [some (vR 24 0), none, none, none, some (vI x4), some (vI x5)] [] := by
  intro n
  induction n with
  | zero => intro x4 x5 M hw; exact hw.elim
  | succ n ih =>
    intro x4 x5 M hw
    unfold wl_X2_nextOrder_83 at hw
    refine gh_iload dc_X2_nextOrder_83 rfl ?_
    refine gh_iload dc_X2_nextOrder_85 rfl ?_
    refine gh_icmp_ge (tgt := 107) dc_X2_nextOrder_87 rfl (fun c10 => ?_) (fun c10 => ?_)
    · replace hw := hw.1 c10
      refine gh_iconst (v := (nI 1)) dc_X2_nextOrder_107 gc_1 ?_
      exact gh_zret dc_X2_nextOrder_108 hE rfl (by decide) hw
    · replace hw := hw.2 c10
      refine gh_aload_n dc_X2_nextOrder_90 rfl ?_
      refine gh_iload dc_X2_nextOrder_91 rfl ?_
      refine gh_iload dc_X2_nextOrder_93 rfl ?_
      refine gh_callVv (mi' := mi_X2_swapTried) (as := [vI x4, vI x5]) (S := []) (k := 24) (t := 0) dc_X2_nextOrder_95 ml_RX2_104 ok_X2_swapTried rfl rfl (by decide) (Nat.le_of_ble_eq_true rfl) (by decide) (by decide) rfl rfl (wk_X2_swapTried _ _ _ _ hw) (fun M12 hw => ?_)
      obtain ⟨y4_13, ey4_13⟩ : ∃ z, z = (x4 + (nI 1)) := ⟨_, rfl⟩
      replace hw := hw _ ey4_13
      refine gh_iinc (v := y4_13) (L' := [some (vR 24 0), none, none, none, some (vI y4_13), some (vI x5)]) dc_X2_nextOrder_98 rfl ((congrArg (fun z => x4 + z) gc_1).trans ey4_13.symm) (by decide) rfl rfl ?_
      obtain ⟨y5_14, ey5_14⟩ : ∃ z, z = (x5 + (-1 : Int32)) := ⟨_, rfl⟩
      replace hw := hw _ ey5_14
      refine gh_iinc (v := y5_14) (L' := [some (vR 24 0), none, none, none, some (vI y4_13), some (vI y5_14)]) dc_X2_nextOrder_101 rfl ((congrArg (fun z => x5 + z) gc_m1).trans ey5_14.symm) (by decide) rfl rfl ?_
      refine gh_goto (tgt := 83) dc_X2_nextOrder_104 rfl ?_
      refine gh_drop (pc' := 0) [some (vR 24 0), none, none, none, some (vI y4_13), some (vI y5_14)] ⟨rfl, rfl, rfl, trivial⟩ ?_
      exact ih _ _ _ hw
theorem lk_X2_nextOrder_41 {wd : gh_Wd} {x : gh_X} {Q : Int32 → gh_M → Prop}   (hE : gh_E wd (gh_Qi Q) x)   : ∀ (n : Nat) (x1 : Int32) (x2 : Int32) (x3 : Int32) (M : gh_M), wl_X2_nextOrder_41 Q n x1 x2 x3 M → gh_J mi_X2_nextOrder 2 wd x M 41 [some (vR 24 0), some (vI x1), some (vI x2), some (vI x3), none, none] [] := by
  intro n
  induction n with
  | zero => intro x1 x2 x3 M hw; exact hw.elim
  | succ n ih =>
    intro x1 x2 x3 M hw
    unfold wl_X2_nextOrder_41 at hw
    refine gh_iload_n dc_X2_nextOrder_41 rfl ?_
    refine gh_iload_n dc_X2_nextOrder_42 rfl ?_
    refine gh_icmp_le (tgt := 67) dc_X2_nextOrder_43 rfl (fun c5 => ?_) (fun c5 => ?_)
    · replace hw := hw.1 c5
      refine gh_aload_n dc_X2_nextOrder_67 rfl ?_
      refine gh_iload_n dc_X2_nextOrder_68 rfl ?_
      refine gh_iload_n dc_X2_nextOrder_69 rfl ?_
      refine gh_callVv (mi' := mi_X2_swapTried) (as := [vI x2, vI x3]) (S := []) (k := 24) (t := 0) dc_X2_nextOrder_70 ml_RX2_104 ok_X2_swapTried rfl rfl (by decide) (Nat.le_of_ble_eq_true rfl) (by decide) (by decide) rfl rfl (wk_X2_swapTried _ _ _ _ hw) (fun M7 hw => ?_)
      refine gh_iload_n dc_X2_nextOrder_73 rfl ?_
      refine gh_iconst (v := (nI 1)) dc_X2_nextOrder_74 gc_1 ?_
      refine gh_iadd dc_X2_nextOrder_75 ?_
      obtain ⟨y4_8, ey4_8⟩ : ∃ z, z = (x2 + (nI 1)) := ⟨_, rfl⟩
      rw [← ey4_8]
      replace hw := hw _ ey4_8
      refine gh_istore (L' := [some (vR 24 0), some (vI x1), some (vI x2), some (vI x3), some (vI y4_8), none]) dc_X2_nextOrder_76 (by decide) rfl rfl ?_
      refine gh_iload_n dc_X2_nextOrder_78 rfl ?_
      refine gh_iconst (v := (nI 1)) dc_X2_nextOrder_79 gc_1 ?_
      refine gh_isub dc_X2_nextOrder_80 ?_
      obtain ⟨y5_9, ey5_9⟩ : ∃ z, z = (x1 - (nI 1)) := ⟨_, rfl⟩
      rw [← ey5_9]
      replace hw := hw _ ey5_9
      refine gh_istore (L' := [some (vR 24 0), some (vI x1), some (vI x2), some (vI x3), some (vI y4_8), some (vI y5_9)]) dc_X2_nextOrder_81 (by decide) rfl rfl ?_
      refine gh_drop (pc' := 0) [some (vR 24 0), none, none, none, some (vI y4_8), some (vI y5_9)] ⟨rfl, rfl, rfl, trivial⟩ ?_
      obtain ⟨k, hw⟩ := hw
      exact lk_X2_nextOrder_83  hE  k _ _ _ hw
    · replace hw := hw.2 c5
      refine gh_aload_n dc_X2_nextOrder_46 rfl ?_
      refine gh_getR (k := 24) (t := 0) dc_X2_nextOrder_47 fl_RX2_25 (by decide) (by decide) rfl rfl ?_
      refine gh_iload_n dc_X2_nextOrder_50 rfl ?_
      obtain ⟨h15, hw⟩ := hw
      refine gh_iald (k := 27) (t := 0) dc_X2_nextOrder_51 rfl (by decide) (by decide) h15 ?_
      refine gh_aload_n dc_X2_nextOrder_52 rfl ?_
      refine gh_getR (k := 24) (t := 0) dc_X2_nextOrder_53 fl_RX2_25 (by decide) (by decide) rfl rfl ?_
      refine gh_iload_n dc_X2_nextOrder_56 rfl ?_
      obtain ⟨h16, hw⟩ := hw
      refine gh_iald (k := 27) (t := 0) dc_X2_nextOrder_57 rfl (by decide) (by decide) h16 ?_
      refine gh_icmp_ge (tgt := 67) dc_X2_nextOrder_58 rfl (fun c17 => ?_) (fun c17 => ?_)
      · replace hw := hw.1 c17
        refine gh_aload_n dc_X2_nextOrder_67 rfl ?_
        refine gh_iload_n dc_X2_nextOrder_68 rfl ?_
        refine gh_iload_n dc_X2_nextOrder_69 rfl ?_
        refine gh_callVv (mi' := mi_X2_swapTried) (as := [vI x2, vI x3]) (S := []) (k := 24) (t := 0) dc_X2_nextOrder_70 ml_RX2_104 ok_X2_swapTried rfl rfl (by decide) (Nat.le_of_ble_eq_true rfl) (by decide) (by decide) rfl rfl (wk_X2_swapTried _ _ _ _ hw) (fun M19 hw => ?_)
        refine gh_iload_n dc_X2_nextOrder_73 rfl ?_
        refine gh_iconst (v := (nI 1)) dc_X2_nextOrder_74 gc_1 ?_
        refine gh_iadd dc_X2_nextOrder_75 ?_
        obtain ⟨y4_20, ey4_20⟩ : ∃ z, z = (x2 + (nI 1)) := ⟨_, rfl⟩
        rw [← ey4_20]
        replace hw := hw _ ey4_20
        refine gh_istore (L' := [some (vR 24 0), some (vI x1), some (vI x2), some (vI x3), some (vI y4_20), none]) dc_X2_nextOrder_76 (by decide) rfl rfl ?_
        refine gh_iload_n dc_X2_nextOrder_78 rfl ?_
        refine gh_iconst (v := (nI 1)) dc_X2_nextOrder_79 gc_1 ?_
        refine gh_isub dc_X2_nextOrder_80 ?_
        obtain ⟨y5_21, ey5_21⟩ : ∃ z, z = (x1 - (nI 1)) := ⟨_, rfl⟩
        rw [← ey5_21]
        replace hw := hw _ ey5_21
        refine gh_istore (L' := [some (vR 24 0), some (vI x1), some (vI x2), some (vI x3), some (vI y4_20), some (vI y5_21)]) dc_X2_nextOrder_81 (by decide) rfl rfl ?_
        refine gh_drop (pc' := 0) [some (vR 24 0), none, none, none, some (vI y4_20), some (vI y5_21)] ⟨rfl, rfl, rfl, trivial⟩ ?_
        obtain ⟨k, hw⟩ := hw
        exact lk_X2_nextOrder_83  hE  k _ _ _ hw
      · replace hw := hw.2 c17
        obtain ⟨y3_22, ey3_22⟩ : ∃ z, z = (x3 + (-1 : Int32)) := ⟨_, rfl⟩
        replace hw := hw _ ey3_22
        refine gh_iinc (v := y3_22) (L' := [some (vR 24 0), some (vI x1), some (vI x2), some (vI y3_22), none, none]) dc_X2_nextOrder_61 rfl ((congrArg (fun z => x3 + z) gc_m1).trans ey3_22.symm) (by decide) rfl rfl ?_
        refine gh_goto (tgt := 41) dc_X2_nextOrder_64 rfl ?_
        refine gh_drop (pc' := 0) [some (vR 24 0), some (vI x1), some (vI x2), some (vI y3_22), none, none] ⟨rfl, rfl, rfl, rfl, trivial⟩ ?_
        exact ih _ _ _ _ hw
theorem lk_X2_nextOrder_4 {wd : gh_Wd} {x : gh_X} {Q : Int32 → gh_M → Prop}   (hE : gh_E wd (gh_Qi Q) x)   : ∀ (n : Nat) (x1 : Int32) (x2 : Int32) (M : gh_M), wl_X2_nextOrder_4 Q n x1 x2 M → gh_J mi_X2_nextOrder 2 wd x M 4 [some (vR 24 0), some (vI x1), some (vI x2), none, none, none] [] := by
  intro n
  induction n with
  | zero => intro x1 x2 M hw; exact hw.elim
  | succ n ih =>
    intro x1 x2 M hw
    unfold wl_X2_nextOrder_4 at hw
    refine gh_iload_n dc_X2_nextOrder_4 rfl ?_
    refine gh_if_lt (tgt := 31) dc_X2_nextOrder_5 rfl (fun c2 => ?_) (fun c2 => ?_)
    · replace hw := hw.1 c2
      refine gh_iload_n dc_X2_nextOrder_31 rfl ?_
      refine gh_if_ge (tgt := 37) dc_X2_nextOrder_32 rfl (fun c3 => ?_) (fun c3 => ?_)
      · replace hw := hw.1 c3
        refine gh_iload_n dc_X2_nextOrder_37 rfl ?_
        refine gh_iconst (v := (nI 1)) dc_X2_nextOrder_38 gc_1 ?_
        refine gh_isub dc_X2_nextOrder_39 ?_
        obtain ⟨y3_4, ey3_4⟩ : ∃ z, z = (x1 - (nI 1)) := ⟨_, rfl⟩
        rw [← ey3_4]
        replace hw := hw _ ey3_4
        refine gh_istore_n (L' := [some (vR 24 0), some (vI x1), some (vI x2), some (vI y3_4), none, none]) dc_X2_nextOrder_40 (by decide) rfl rfl ?_
        refine gh_drop (pc' := 0) [some (vR 24 0), some (vI x1), some (vI x2), some (vI y3_4), none, none] ⟨rfl, rfl, rfl, rfl, trivial⟩ ?_
        obtain ⟨k, hw⟩ := hw
        exact lk_X2_nextOrder_41  hE  k _ _ _ _ hw
      · replace hw := hw.2 c3
        refine gh_iconst (v := (nI 0)) dc_X2_nextOrder_35 gc_0 ?_
        exact gh_zret dc_X2_nextOrder_36 hE rfl (by decide) hw
    · replace hw := hw.2 c2
      refine gh_aload_n dc_X2_nextOrder_8 rfl ?_
      refine gh_getR (k := 24) (t := 0) dc_X2_nextOrder_9 fl_RX2_25 (by decide) (by decide) rfl rfl ?_
      refine gh_iload_n dc_X2_nextOrder_12 rfl ?_
      obtain ⟨h23, hw⟩ := hw
      refine gh_iald (k := 27) (t := 0) dc_X2_nextOrder_13 rfl (by decide) (by decide) h23 ?_
      refine gh_aload_n dc_X2_nextOrder_14 rfl ?_
      refine gh_getR (k := 24) (t := 0) dc_X2_nextOrder_15 fl_RX2_25 (by decide) (by decide) rfl rfl ?_
      refine gh_iload_n dc_X2_nextOrder_18 rfl ?_
      refine gh_iconst (v := (nI 1)) dc_X2_nextOrder_19 gc_1 ?_
      refine gh_iadd dc_X2_nextOrder_20 ?_
      obtain ⟨h24, hw⟩ := hw
      refine gh_iald (k := 27) (t := 0) dc_X2_nextOrder_21 rfl (by decide) (by decide) h24 ?_
      refine gh_icmp_le (tgt := 31) dc_X2_nextOrder_22 rfl (fun c25 => ?_) (fun c25 => ?_)
      · replace hw := hw.1 c25
        refine gh_iload_n dc_X2_nextOrder_31 rfl ?_
        refine gh_if_ge (tgt := 37) dc_X2_nextOrder_32 rfl (fun c26 => ?_) (fun c26 => ?_)
        · replace hw := hw.1 c26
          refine gh_iload_n dc_X2_nextOrder_37 rfl ?_
          refine gh_iconst (v := (nI 1)) dc_X2_nextOrder_38 gc_1 ?_
          refine gh_isub dc_X2_nextOrder_39 ?_
          obtain ⟨y3_27, ey3_27⟩ : ∃ z, z = (x1 - (nI 1)) := ⟨_, rfl⟩
          rw [← ey3_27]
          replace hw := hw _ ey3_27
          refine gh_istore_n (L' := [some (vR 24 0), some (vI x1), some (vI x2), some (vI y3_27), none, none]) dc_X2_nextOrder_40 (by decide) rfl rfl ?_
          refine gh_drop (pc' := 0) [some (vR 24 0), some (vI x1), some (vI x2), some (vI y3_27), none, none] ⟨rfl, rfl, rfl, rfl, trivial⟩ ?_
          obtain ⟨k, hw⟩ := hw
          exact lk_X2_nextOrder_41  hE  k _ _ _ _ hw
        · replace hw := hw.2 c26
          refine gh_iconst (v := (nI 0)) dc_X2_nextOrder_35 gc_0 ?_
          exact gh_zret dc_X2_nextOrder_36 hE rfl (by decide) hw
      · replace hw := hw.2 c25
        obtain ⟨y2_28, ey2_28⟩ : ∃ z, z = (x2 + (-1 : Int32)) := ⟨_, rfl⟩
        replace hw := hw _ ey2_28
        refine gh_iinc (v := y2_28) (L' := [some (vR 24 0), some (vI x1), some (vI y2_28), none, none, none]) dc_X2_nextOrder_25 rfl ((congrArg (fun z => x2 + z) gc_m1).trans ey2_28.symm) (by decide) rfl rfl ?_
        refine gh_goto (tgt := 4) dc_X2_nextOrder_28 rfl ?_
        refine gh_drop (pc' := 0) [some (vR 24 0), some (vI x1), some (vI y2_28), none, none, none] ⟨rfl, rfl, rfl, trivial⟩ ?_
        exact ih _ _ _ hw
theorem wk_X2_nextOrder   (Q : Int32 → gh_M → Prop) (a0 : Int32) (M : gh_M) (hw : wp_X2_nextOrder  a0 M Q) : gh_Calls 2 mi_X2_nextOrder [vR 24 0, vI a0] M (gh_Qi Q) := by
  refine gh_of (by decide) rfl 4 rfl (L0 := [some (vR 24 0), some (vI a0), none, none, none, none]) rfl (fun wd x hE => ?_)
  unfold wp_X2_nextOrder at hw
  refine gh_iload_n dc_X2_nextOrder_0 rfl ?_
  refine gh_iconst (v := (nI 2)) dc_X2_nextOrder_1 gc_2 ?_
  refine gh_isub dc_X2_nextOrder_2 ?_
  obtain ⟨y2_1, ey2_1⟩ : ∃ z, z = (a0 - (nI 2)) := ⟨_, rfl⟩
  rw [← ey2_1]
  replace hw := hw _ ey2_1
  refine gh_istore_n (L' := [some (vR 24 0), some (vI a0), some (vI y2_1), none, none, none]) dc_X2_nextOrder_3 (by decide) rfl rfl ?_
  refine gh_drop (pc' := 0) [some (vR 24 0), some (vI a0), some (vI y2_1), none, none, none] ⟨rfl, rfl, rfl, trivial⟩ ?_
  obtain ⟨k, hw⟩ := hw
  exact lk_X2_nextOrder_4  hE  k _ _ _ hw
theorem lk_X2_findOrder_34 {wd : gh_Wd} {x : gh_X} {Q : gh_M → Prop} {t0 : Nat} (ht0 : t0 < 29) (hE : gh_E wd (gh_Qv Q) x)   : ∀ (n : Nat) (x2 : Int32) (x3 : Int32) (x4 : Int32) (x5 : Int32) (x6 : Int32) (M : gh_M), wl_X2_findOrder_34 t0 Q n x2 x3 x4 x5 x6 M → gh_J mi_X2_findOrder 6 wd x M 34 [some (vR 24 0), some (vR 6 t0), some (vI x2), some (vI x3), some (vI x4), some (vI x5), some (vI x6), none, none] [] := by
  intro n
  induction n with
  | zero => intro x2 x3 x4 x5 x6 M hw; exact hw.elim
  | succ n ih =>
    intro x2 x3 x4 x5 x6 M hw
    unfold wl_X2_findOrder_34 at hw
    refine gh_iload dc_X2_findOrder_34 rfl ?_
    refine gh_sipush (v := (nI 720)) dc_X2_findOrder_36 gs_720 ?_
    refine gh_icmp_ge (tgt := 164) dc_X2_findOrder_39 rfl (fun c6 => ?_) (fun c6 => ?_)
    · replace hw := hw.1 c6
      refine gh_aload_n dc_X2_findOrder_164 rfl ?_
      refine gh_iload dc_X2_findOrder_165 rfl ?_
      refine gh_aload_n dc_X2_findOrder_167 rfl ?_
      refine gh_getI (k := 6) (t := t0) dc_X2_findOrder_168 fl_RX2_97 (by decide) ht0 rfl rfl ?_
      refine gh_callVv (mi' := mi_X2_mergeBest) (as := [vI x4, vI (M 6 t0 2)]) (S := []) (k := 24) (t := 0) dc_X2_findOrder_171 ml_RX2_100 ok_X2_mergeBest rfl rfl (by decide) (Nat.le_of_ble_eq_true rfl) (by decide) (by decide) rfl rfl (wk_X2_mergeBest _ _ _ _ hw) (fun M8 hw => ?_)
      exact gh_vret dc_X2_findOrder_174 hE rfl hw
    · replace hw := hw.2 c6
      refine gh_iload dc_X2_findOrder_42 rfl ?_
      refine gh_if_eq (tgt := 164) dc_X2_findOrder_44 rfl (fun c9 => ?_) (fun c9 => ?_)
      · replace hw := hw.1 c9
        refine gh_aload_n dc_X2_findOrder_164 rfl ?_
        refine gh_iload dc_X2_findOrder_165 rfl ?_
        refine gh_aload_n dc_X2_findOrder_167 rfl ?_
        refine gh_getI (k := 6) (t := t0) dc_X2_findOrder_168 fl_RX2_97 (by decide) ht0 rfl rfl ?_
        refine gh_callVv (mi' := mi_X2_mergeBest) (as := [vI x4, vI (M 6 t0 2)]) (S := []) (k := 24) (t := 0) dc_X2_findOrder_171 ml_RX2_100 ok_X2_mergeBest rfl rfl (by decide) (Nat.le_of_ble_eq_true rfl) (by decide) (by decide) rfl rfl (wk_X2_mergeBest _ _ _ _ hw) (fun M11 hw => ?_)
        exact gh_vret dc_X2_findOrder_174 hE rfl hw
      · replace hw := hw.2 c9
        refine gh_aload_n dc_X2_findOrder_47 rfl ?_
        refine gh_getR (k := 24) (t := 0) dc_X2_findOrder_48 fl_RX2_12 (by decide) (by decide) rfl rfl ?_
        refine gh_aload_n dc_X2_findOrder_51 rfl ?_
        refine gh_callVv (mi' := mi_X5_copyFrom) (as := [vR 6 t0]) (S := []) (k := 6) (t := 28) dc_X2_findOrder_52 ml_RX2_38 ok_X5_copyFrom rfl rfl (by decide) (Nat.le_of_ble_eq_true rfl) (by decide) (by decide) rfl rfl (wk_X5_copyFrom (by decide) ht0 _ _ hw) (fun M13 hw => ?_)
        refine gh_aload_n dc_X2_findOrder_55 rfl ?_
        refine gh_getR (k := 24) (t := 0) dc_X2_findOrder_56 fl_RX2_25 (by decide) (by decide) rfl rfl ?_
        refine gh_iconst (v := (nI 0)) dc_X2_findOrder_59 gc_0 ?_
        refine gh_aload_n dc_X2_findOrder_60 rfl ?_
        refine gh_getR (k := 24) (t := 0) dc_X2_findOrder_61 fl_RX2_12 (by decide) (by decide) rfl rfl ?_
        refine gh_getR (k := 6) (t := 28) dc_X2_findOrder_64 fl_RX2_71 (by decide) (by decide) rfl rfl ?_
        refine gh_iconst (v := (nI 0)) dc_X2_findOrder_67 gc_0 ?_
        refine gh_bipush (v := (nI 6)) dc_X2_findOrder_68 gb_6 ?_
        obtain ⟨h14, hw⟩ := hw
        refine gh_copy (z := 0) (ks := 27) (ts := 0) (kd := 19) (td := 28) (S := []) dc_X2_findOrder_70 tw_594 tw_316 tw_315 tw_10 (by decide) (Nat.le_of_ble_eq_true rfl) (by decide) rfl rfl (by decide) (by decide) (by decide) (by decide) h14.1 h14.2.1 h14.2.2.1 h14.2.2.2.1 h14.2.2.2.2 (fun h => absurd h (by decide)) ?_
        obtain ⟨M15, eM15⟩ : ∃ z, z = (gh_row M13 19 28 (va_cpy (M13 27 0) (M13 19 28) (nI 0).toNatClampNeg (nI 0).toNatClampNeg (nI 6).toNatClampNeg)) := ⟨_, rfl⟩
        rw [← eM15]
        replace hw := hw _ eM15
        refine gh_aload_n dc_X2_findOrder_73 rfl ?_
        refine gh_getR (k := 24) (t := 0) dc_X2_findOrder_74 fl_RX2_12 (by decide) (by decide) rfl rfl ?_
        refine gh_iload_n dc_X2_findOrder_77 rfl ?_
        refine gh_callVv (mi' := mi_X5_tickOnFor) (as := [vI x2]) (S := []) (k := 6) (t := 28) dc_X2_findOrder_78 ml_RX2_42 ok_X5_tickOnFor rfl rfl (by decide) (Nat.le_of_ble_eq_true rfl) (by decide) (by decide) rfl rfl (wk_X5_tickOnFor (by decide) _ _ _ hw) (fun M17 hw => ?_)
        refine gh_aload_n dc_X2_findOrder_81 rfl ?_
        refine gh_getR (k := 24) (t := 0) dc_X2_findOrder_82 fl_RX2_12 (by decide) (by decide) rfl rfl ?_
        refine gh_callVi (mi' := mi_X5_allScreams) (as := []) (S := []) (k := 6) (t := 28) dc_X2_findOrder_85 ml_RX2_80 ok_X5_allScreams rfl rfl (by decide) (Nat.le_of_ble_eq_true rfl) (by decide) (by decide) rfl rfl (wk_X5_allScreams (by decide) _ _ hw) (fun r18 M19 hw => ?_)
        refine gh_istore (L' := [some (vR 24 0), some (vR 6 t0), some (vI x2), some (vI x3), some (vI x4), some (vI x5), some (vI x6), some (vI r18), none]) dc_X2_findOrder_88 (by decide) rfl rfl ?_
        refine gh_aload_n dc_X2_findOrder_90 rfl ?_
        refine gh_getR (k := 24) (t := 0) dc_X2_findOrder_91 fl_RX2_12 (by decide) (by decide) rfl rfl ?_
        refine gh_callVi (mi' := mi_X5_bitsOut) (as := []) (S := []) (k := 6) (t := 28) dc_X2_findOrder_94 ml_RX2_84 ok_X5_bitsOut rfl rfl (by decide) (Nat.le_of_ble_eq_true rfl) (by decide) (by decide) rfl rfl (wk_X5_bitsOut (by decide) _ _ hw) (fun r20 M21 hw => ?_)
        refine gh_callSi (mi' := mi_J6_bitCount_0f7a4) (as := [vI r20]) (S := []) dc_X2_findOrder_97 ml_RX2_87 ok_J6_bitCount_0f7a4 rfl rfl (by decide) (Nat.le_of_ble_eq_true rfl) (wk_J6_bitCount_0f7a4 _ _ _ hw) (fun r22 M23 hw => ?_)
        refine gh_istore (L' := [some (vR 24 0), some (vR 6 t0), some (vI x2), some (vI x3), some (vI x4), some (vI x5), some (vI x6), some (vI r18), some (vI r22)]) dc_X2_findOrder_100 (by decide) rfl rfl ?_
        refine gh_iload dc_X2_findOrder_102 rfl ?_
        refine gh_aload_n dc_X2_findOrder_104 rfl ?_
        refine gh_getI (k := 24) (t := 0) dc_X2_findOrder_105 fl_RX2_64 (by decide) (by decide) rfl rfl ?_
        refine gh_icmp_gt (tgt := 126) dc_X2_findOrder_108 rfl (fun c24 => ?_) (fun c24 => ?_)
        · replace hw := hw.1 c24
          refine gh_aload_n dc_X2_findOrder_126 rfl ?_
          refine gh_iload dc_X2_findOrder_127 rfl ?_
          refine gh_put (k := 24) (t := 0) dc_X2_findOrder_129 fl_RX2_64 (by decide) (by decide) rfl rfl (fun _ h => by cases h; rfl) rfl rfl ?_
          obtain ⟨M25, eM25⟩ : ∃ z, z = (gh_st M23 24 0 7 r18) := ⟨_, rfl⟩
          rw [← eM25]
          replace hw := hw _ eM25
          refine gh_iload dc_X2_findOrder_132 rfl ?_
          refine gh_istore_n (L' := [some (vR 24 0), some (vR 6 t0), some (vI x2), some (vI r22), some (vI x4), some (vI x5), some (vI x6), some (vI r18), some (vI r22)]) dc_X2_findOrder_134 (by decide) rfl rfl ?_
          refine gh_aload_n dc_X2_findOrder_135 rfl ?_
          refine gh_getR (k := 24) (t := 0) dc_X2_findOrder_136 fl_RX2_25 (by decide) (by decide) rfl rfl ?_
          refine gh_iconst (v := (nI 0)) dc_X2_findOrder_139 gc_0 ?_
          refine gh_aload_n dc_X2_findOrder_140 rfl ?_
          refine gh_getR (k := 24) (t := 0) dc_X2_findOrder_141 fl_RX2_28 (by decide) (by decide) rfl rfl ?_
          refine gh_iconst (v := (nI 0)) dc_X2_findOrder_144 gc_0 ?_
          refine gh_bipush (v := (nI 6)) dc_X2_findOrder_145 gb_6 ?_
          obtain ⟨h26, hw⟩ := hw
          refine gh_copy (z := 0) (ks := 27) (ts := 0) (kd := 28) (td := 0) (S := []) dc_X2_findOrder_147 tw_594 tw_316 tw_315 tw_10 (by decide) (Nat.le_of_ble_eq_true rfl) (by decide) rfl rfl (by decide) (by decide) (by decide) (by decide) h26.1 h26.2.1 h26.2.2.1 h26.2.2.2.1 h26.2.2.2.2 (fun h => absurd h (by decide)) ?_
          obtain ⟨M27, eM27⟩ : ∃ z, z = (gh_row M25 28 0 (va_cpy (M25 27 0) (M25 28 0) (nI 0).toNatClampNeg (nI 0).toNatClampNeg (nI 6).toNatClampNeg)) := ⟨_, rfl⟩
          rw [← eM27]
          replace hw := hw _ eM27
          refine gh_aload_n dc_X2_findOrder_150 rfl ?_
          refine gh_iload dc_X2_findOrder_151 rfl ?_
          refine gh_callVi (mi' := mi_X2_nextOrder) (as := [vI x4]) (S := []) (k := 24) (t := 0) dc_X2_findOrder_153 ml_RX2_93 ok_X2_nextOrder rfl rfl (by decide) (Nat.le_of_ble_eq_true rfl) (by decide) (by decide) rfl rfl (wk_X2_nextOrder _ _ _ hw) (fun r28 M29 hw => ?_)
          refine gh_istore (L' := [some (vR 24 0), some (vR 6 t0), some (vI x2), some (vI r22), some (vI x4), some (vI r28), some (vI x6), some (vI r18), some (vI r22)]) dc_X2_findOrder_156 (by decide) rfl rfl ?_
          obtain ⟨y6_30, ey6_30⟩ : ∃ z, z = (x6 + (nI 1)) := ⟨_, rfl⟩
          replace hw := hw _ ey6_30
          refine gh_iinc (v := y6_30) (L' := [some (vR 24 0), some (vR 6 t0), some (vI x2), some (vI r22), some (vI x4), some (vI r28), some (vI y6_30), some (vI r18), some (vI r22)]) dc_X2_findOrder_158 rfl ((congrArg (fun z => x6 + z) gc_1).trans ey6_30.symm) (by decide) rfl rfl ?_
          refine gh_goto (tgt := 34) dc_X2_findOrder_161 rfl ?_
          refine gh_drop (pc' := 0) [some (vR 24 0), some (vR 6 t0), some (vI x2), some (vI r22), some (vI x4), some (vI r28), some (vI y6_30), none, none] ⟨rfl, rfl, rfl, rfl, rfl, rfl, rfl, trivial⟩ ?_
          exact ih _ _ _ _ _ _ hw
        · replace hw := hw.2 c24
          refine gh_iload dc_X2_findOrder_111 rfl ?_
          refine gh_aload_n dc_X2_findOrder_113 rfl ?_
          refine gh_getI (k := 24) (t := 0) dc_X2_findOrder_114 fl_RX2_64 (by decide) (by decide) rfl rfl ?_
          refine gh_icmp_ne (tgt := 150) dc_X2_findOrder_117 rfl (fun c31 => ?_) (fun c31 => ?_)
          · replace hw := hw.1 c31
            refine gh_aload_n dc_X2_findOrder_150 rfl ?_
            refine gh_iload dc_X2_findOrder_151 rfl ?_
            refine gh_callVi (mi' := mi_X2_nextOrder) (as := [vI x4]) (S := []) (k := 24) (t := 0) dc_X2_findOrder_153 ml_RX2_93 ok_X2_nextOrder rfl rfl (by decide) (Nat.le_of_ble_eq_true rfl) (by decide) (by decide) rfl rfl (wk_X2_nextOrder _ _ _ hw) (fun r32 M33 hw => ?_)
            refine gh_istore (L' := [some (vR 24 0), some (vR 6 t0), some (vI x2), some (vI x3), some (vI x4), some (vI r32), some (vI x6), some (vI r18), some (vI r22)]) dc_X2_findOrder_156 (by decide) rfl rfl ?_
            obtain ⟨y6_34, ey6_34⟩ : ∃ z, z = (x6 + (nI 1)) := ⟨_, rfl⟩
            replace hw := hw _ ey6_34
            refine gh_iinc (v := y6_34) (L' := [some (vR 24 0), some (vR 6 t0), some (vI x2), some (vI x3), some (vI x4), some (vI r32), some (vI y6_34), some (vI r18), some (vI r22)]) dc_X2_findOrder_158 rfl ((congrArg (fun z => x6 + z) gc_1).trans ey6_34.symm) (by decide) rfl rfl ?_
            refine gh_goto (tgt := 34) dc_X2_findOrder_161 rfl ?_
            refine gh_drop (pc' := 0) [some (vR 24 0), some (vR 6 t0), some (vI x2), some (vI x3), some (vI x4), some (vI r32), some (vI y6_34), none, none] ⟨rfl, rfl, rfl, rfl, rfl, rfl, rfl, trivial⟩ ?_
            exact ih _ _ _ _ _ _ hw
          · replace hw := hw.2 c31
            refine gh_iload dc_X2_findOrder_120 rfl ?_
            refine gh_iload_n dc_X2_findOrder_122 rfl ?_
            refine gh_icmp_le (tgt := 150) dc_X2_findOrder_123 rfl (fun c35 => ?_) (fun c35 => ?_)
            · replace hw := hw.1 c35
              refine gh_aload_n dc_X2_findOrder_150 rfl ?_
              refine gh_iload dc_X2_findOrder_151 rfl ?_
              refine gh_callVi (mi' := mi_X2_nextOrder) (as := [vI x4]) (S := []) (k := 24) (t := 0) dc_X2_findOrder_153 ml_RX2_93 ok_X2_nextOrder rfl rfl (by decide) (Nat.le_of_ble_eq_true rfl) (by decide) (by decide) rfl rfl (wk_X2_nextOrder _ _ _ hw) (fun r36 M37 hw => ?_)
              refine gh_istore (L' := [some (vR 24 0), some (vR 6 t0), some (vI x2), some (vI x3), some (vI x4), some (vI r36), some (vI x6), some (vI r18), some (vI r22)]) dc_X2_findOrder_156 (by decide) rfl rfl ?_
              obtain ⟨y6_38, ey6_38⟩ : ∃ z, z = (x6 + (nI 1)) := ⟨_, rfl⟩
              replace hw := hw _ ey6_38
              refine gh_iinc (v := y6_38) (L' := [some (vR 24 0), some (vR 6 t0), some (vI x2), some (vI x3), some (vI x4), some (vI r36), some (vI y6_38), some (vI r18), some (vI r22)]) dc_X2_findOrder_158 rfl ((congrArg (fun z => x6 + z) gc_1).trans ey6_38.symm) (by decide) rfl rfl ?_
              refine gh_goto (tgt := 34) dc_X2_findOrder_161 rfl ?_
              refine gh_drop (pc' := 0) [some (vR 24 0), some (vR 6 t0), some (vI x2), some (vI x3), some (vI x4), some (vI r36), some (vI y6_38), none, none] ⟨rfl, rfl, rfl, rfl, rfl, rfl, rfl, trivial⟩ ?_
              exact ih _ _ _ _ _ _ hw
            · replace hw := hw.2 c35
              refine gh_aload_n dc_X2_findOrder_126 rfl ?_
              refine gh_iload dc_X2_findOrder_127 rfl ?_
              refine gh_put (k := 24) (t := 0) dc_X2_findOrder_129 fl_RX2_64 (by decide) (by decide) rfl rfl (fun _ h => by cases h; rfl) rfl rfl ?_
              obtain ⟨M39, eM39⟩ : ∃ z, z = (gh_st M23 24 0 7 r18) := ⟨_, rfl⟩
              rw [← eM39]
              replace hw := hw _ eM39
              refine gh_iload dc_X2_findOrder_132 rfl ?_
              refine gh_istore_n (L' := [some (vR 24 0), some (vR 6 t0), some (vI x2), some (vI r22), some (vI x4), some (vI x5), some (vI x6), some (vI r18), some (vI r22)]) dc_X2_findOrder_134 (by decide) rfl rfl ?_
              refine gh_aload_n dc_X2_findOrder_135 rfl ?_
              refine gh_getR (k := 24) (t := 0) dc_X2_findOrder_136 fl_RX2_25 (by decide) (by decide) rfl rfl ?_
              refine gh_iconst (v := (nI 0)) dc_X2_findOrder_139 gc_0 ?_
              refine gh_aload_n dc_X2_findOrder_140 rfl ?_
              refine gh_getR (k := 24) (t := 0) dc_X2_findOrder_141 fl_RX2_28 (by decide) (by decide) rfl rfl ?_
              refine gh_iconst (v := (nI 0)) dc_X2_findOrder_144 gc_0 ?_
              refine gh_bipush (v := (nI 6)) dc_X2_findOrder_145 gb_6 ?_
              obtain ⟨h40, hw⟩ := hw
              refine gh_copy (z := 0) (ks := 27) (ts := 0) (kd := 28) (td := 0) (S := []) dc_X2_findOrder_147 tw_594 tw_316 tw_315 tw_10 (by decide) (Nat.le_of_ble_eq_true rfl) (by decide) rfl rfl (by decide) (by decide) (by decide) (by decide) h40.1 h40.2.1 h40.2.2.1 h40.2.2.2.1 h40.2.2.2.2 (fun h => absurd h (by decide)) ?_
              obtain ⟨M41, eM41⟩ : ∃ z, z = (gh_row M39 28 0 (va_cpy (M39 27 0) (M39 28 0) (nI 0).toNatClampNeg (nI 0).toNatClampNeg (nI 6).toNatClampNeg)) := ⟨_, rfl⟩
              rw [← eM41]
              replace hw := hw _ eM41
              refine gh_aload_n dc_X2_findOrder_150 rfl ?_
              refine gh_iload dc_X2_findOrder_151 rfl ?_
              refine gh_callVi (mi' := mi_X2_nextOrder) (as := [vI x4]) (S := []) (k := 24) (t := 0) dc_X2_findOrder_153 ml_RX2_93 ok_X2_nextOrder rfl rfl (by decide) (Nat.le_of_ble_eq_true rfl) (by decide) (by decide) rfl rfl (wk_X2_nextOrder _ _ _ hw) (fun r42 M43 hw => ?_)
              refine gh_istore (L' := [some (vR 24 0), some (vR 6 t0), some (vI x2), some (vI r22), some (vI x4), some (vI r42), some (vI x6), some (vI r18), some (vI r22)]) dc_X2_findOrder_156 (by decide) rfl rfl ?_
              obtain ⟨y6_44, ey6_44⟩ : ∃ z, z = (x6 + (nI 1)) := ⟨_, rfl⟩
              replace hw := hw _ ey6_44
              refine gh_iinc (v := y6_44) (L' := [some (vR 24 0), some (vR 6 t0), some (vI x2), some (vI r22), some (vI x4), some (vI r42), some (vI y6_44), some (vI r18), some (vI r22)]) dc_X2_findOrder_158 rfl ((congrArg (fun z => x6 + z) gc_1).trans ey6_44.symm) (by decide) rfl rfl ?_
              refine gh_goto (tgt := 34) dc_X2_findOrder_161 rfl ?_
              refine gh_drop (pc' := 0) [some (vR 24 0), some (vR 6 t0), some (vI x2), some (vI r22), some (vI x4), some (vI r42), some (vI y6_44), none, none] ⟨rfl, rfl, rfl, rfl, rfl, rfl, rfl, trivial⟩ ?_
              exact ih _ _ _ _ _ _ hw
theorem wk_X2_findOrder {t0 : Nat} (ht0 : t0 < 29) (Q : gh_M → Prop) (a0 : Int32) (M : gh_M) (hw : wp_X2_findOrder t0 a0 M Q) : gh_Calls 6 mi_X2_findOrder [vR 24 0, vR 6 t0, vI a0] M (gh_Qv Q) := by
  refine gh_of (by decide) rfl 6 rfl (L0 := [some (vR 24 0), some (vR 6 t0), some (vI a0), none, none, none, none, none, none]) rfl (fun wd x hE => ?_)
  unfold wp_X2_findOrder at hw
  refine gh_aload_n dc_X2_findOrder_0 rfl ?_
  refine gh_getI (k := 24) (t := 0) dc_X2_findOrder_1 fl_RX2_34 (by decide) (by decide) rfl rfl ?_
  refine gh_iload_n dc_X2_findOrder_4 rfl ?_
  refine gh_icmp_ne (tgt := 9) dc_X2_findOrder_5 rfl (fun c1 => ?_) (fun c1 => ?_)
  · replace hw := hw.1 c1
    refine gh_aload_n dc_X2_findOrder_9 rfl ?_
    refine gh_iload_n dc_X2_findOrder_10 rfl ?_
    refine gh_put (k := 24) (t := 0) dc_X2_findOrder_11 fl_RX2_34 (by decide) (by decide) rfl rfl (fun _ h => by cases h; rfl) rfl rfl ?_
    obtain ⟨M2, eM2⟩ : ∃ z, z = (gh_st M 24 0 6 a0) := ⟨_, rfl⟩
    rw [← eM2]
    replace hw := hw _ eM2
    refine gh_aload_n dc_X2_findOrder_14 rfl ?_
    refine gh_iconst (v := (-1 : Int32)) dc_X2_findOrder_15 gc_m1 ?_
    refine gh_put (k := 24) (t := 0) dc_X2_findOrder_16 fl_RX2_64 (by decide) (by decide) rfl rfl (fun _ h => by cases h; rfl) rfl rfl ?_
    obtain ⟨M3, eM3⟩ : ∃ z, z = (gh_st M2 24 0 7 (-1 : Int32)) := ⟨_, rfl⟩
    rw [← eM3]
    replace hw := hw _ eM3
    refine gh_iconst (v := (-1 : Int32)) dc_X2_findOrder_19 gc_m1 ?_
    refine gh_istore_n (L' := [some (vR 24 0), some (vR 6 t0), some (vI a0), some (vI (-1 : Int32)), none, none, none, none, none]) dc_X2_findOrder_20 (by decide) rfl rfl ?_
    refine gh_aload_n dc_X2_findOrder_21 rfl ?_
    refine gh_aload_n dc_X2_findOrder_22 rfl ?_
    refine gh_callVi (mi' := mi_X2_listWaitingFirst) (as := [vR 6 t0]) (S := []) (k := 24) (t := 0) dc_X2_findOrder_23 ml_RX2_67 ok_X2_listWaitingFirst rfl rfl (by decide) (Nat.le_of_ble_eq_true rfl) (by decide) (by decide) rfl rfl (wk_X2_listWaitingFirst ht0 _ _ hw) (fun r4 M5 hw => ?_)
    refine gh_istore (L' := [some (vR 24 0), some (vR 6 t0), some (vI a0), some (vI (-1 : Int32)), some (vI r4), none, none, none, none]) dc_X2_findOrder_26 (by decide) rfl rfl ?_
    refine gh_iconst (v := (nI 1)) dc_X2_findOrder_28 gc_1 ?_
    refine gh_istore (L' := [some (vR 24 0), some (vR 6 t0), some (vI a0), some (vI (-1 : Int32)), some (vI r4), some (vI (nI 1)), none, none, none]) dc_X2_findOrder_29 (by decide) rfl rfl ?_
    refine gh_iconst (v := (nI 0)) dc_X2_findOrder_31 gc_0 ?_
    refine gh_istore (L' := [some (vR 24 0), some (vR 6 t0), some (vI a0), some (vI (-1 : Int32)), some (vI r4), some (vI (nI 1)), some (vI (nI 0)), none, none]) dc_X2_findOrder_32 (by decide) rfl rfl ?_
    refine gh_drop (pc' := 0) [some (vR 24 0), some (vR 6 t0), some (vI a0), some (vI (-1 : Int32)), some (vI r4), some (vI (nI 1)), some (vI (nI 0)), none, none] ⟨rfl, rfl, rfl, rfl, rfl, rfl, rfl, trivial⟩ ?_
    obtain ⟨k, hw⟩ := hw
    exact lk_X2_findOrder_34 ht0 hE  k _ _ _ _ _ _ hw
  · replace hw := hw.2 c1
    exact gh_vret dc_X2_findOrder_8 hE rfl hw
theorem wk_X6_order   (Q : Int32 → gh_M → Prop) (a0 : Int32) (a1 : Int32) (M : gh_M) (hw : wp_X6_order  a0 a1 M Q) : gh_Calls 7 mi_X6_order [vR 0 0, vI a0, vI a1] M (gh_Qi Q) := by
  refine gh_of (by decide) rfl 0 rfl (L0 := [some (vR 0 0), some (vI a0), some (vI a1)]) rfl (fun wd x hE => ?_)
  unfold wp_X6_order at hw
  refine gh_aload_n dc_X6_order_0 rfl ?_
  refine gh_callVi (mi' := mi_X6_hasTrain) (as := []) (S := []) (k := 0) (t := 0) dc_X6_order_1 ml_RX6_142 ok_X6_hasTrain rfl rfl (by decide) (Nat.le_of_ble_eq_true rfl) (by decide) (by decide) rfl rfl (wk_X6_hasTrain _ _ hw) (fun r1 M2 hw => ?_)
  refine gh_if_ne (tgt := 10) dc_X6_order_4 rfl (fun c3 => ?_) (fun c3 => ?_)
  · replace hw := hw.1 c3
    refine gh_iload_n dc_X6_order_10 rfl ?_
    refine gh_iconst (v := (nI 1)) dc_X6_order_11 gc_1 ?_
    refine gh_bipush (v := (nI 50)) dc_X6_order_12 gb_50 ?_
    refine gh_callSi (mi' := mi_X6_within) (as := [vI a0, vI (nI 1), vI (nI 50)]) (S := []) dc_X6_order_14 ml_RX6_62 ok_X6_within rfl rfl (by decide) (Nat.le_of_ble_eq_true rfl) (wk_X6_within _ _ _ _ _ hw) (fun r4 M5 hw => ?_)
    refine gh_if_eq (tgt := 25) dc_X6_order_17 rfl (fun c6 => ?_) (fun c6 => ?_)
    · replace hw := hw.1 c6
      refine gh_ldc (v := (-1000001 : Int32)) dc_X6_order_25 tw_281 ?_
      exact gh_iret dc_X6_order_27 hE rfl hw
    · replace hw := hw.2 c6
      refine gh_iload_n dc_X6_order_20 rfl ?_
      refine gh_iconst (v := (-1 : Int32)) dc_X6_order_21 gc_m1 ?_
      refine gh_icmp_ge (tgt := 28) dc_X6_order_22 rfl (fun c7 => ?_) (fun c7 => ?_)
      · replace hw := hw.1 c7
        refine gh_iload_n dc_X6_order_28 rfl ?_
        refine gh_aload_n dc_X6_order_29 rfl ?_
        refine gh_getR (k := 0) (t := 0) dc_X6_order_30 fl_RX6_25 (by decide) (by decide) rfl rfl ?_
        refine gh_getI (k := 6) (t := 0) dc_X6_order_33 fl_RX6_247 (by decide) (by decide) rfl rfl ?_
        refine gh_icmp_lt (tgt := 42) dc_X6_order_36 rfl (fun c8 => ?_) (fun c8 => ?_)
        · replace hw := hw.1 c8
          refine gh_aload_n dc_X6_order_42 rfl ?_
          refine gh_getR (k := 0) (t := 0) dc_X6_order_43 fl_RX6_46 (by decide) (by decide) rfl rfl ?_
          refine gh_aload_n dc_X6_order_46 rfl ?_
          refine gh_getR (k := 0) (t := 0) dc_X6_order_47 fl_RX6_25 (by decide) (by decide) rfl rfl ?_
          refine gh_iload_n dc_X6_order_50 rfl ?_
          refine gh_callVv (mi' := mi_X2_findOrder) (as := [vR 6 0, vI a0]) (S := []) (k := 24) (t := 0) dc_X6_order_51 ml_RX6_250 ok_X2_findOrder rfl rfl (by decide) (Nat.le_of_ble_eq_true rfl) (by decide) (by decide) rfl rfl (wk_X2_findOrder (by decide) _ _ _ hw) (fun M10 hw => ?_)
          refine gh_iload_n dc_X6_order_54 rfl ?_
          refine gh_if_ge (tgt := 68) dc_X6_order_55 rfl (fun c11 => ?_) (fun c11 => ?_)
          · replace hw := hw.1 c11
            refine gh_aload_n dc_X6_order_68 rfl ?_
            refine gh_getR (k := 0) (t := 0) dc_X6_order_69 fl_RX6_46 (by decide) (by decide) rfl rfl ?_
            refine gh_getR (k := 24) (t := 0) dc_X6_order_72 fl_RX6_257 (by decide) (by decide) rfl rfl ?_
            refine gh_iload_n dc_X6_order_75 rfl ?_
            obtain ⟨h12, hw⟩ := hw
            refine gh_iald (k := 26) (t := 0) dc_X6_order_76 rfl (by decide) (by decide) h12 ?_
            exact gh_iret dc_X6_order_77 hE rfl hw
          · replace hw := hw.2 c11
            refine gh_aload_n dc_X6_order_58 rfl ?_
            refine gh_getR (k := 0) (t := 0) dc_X6_order_59 fl_RX6_46 (by decide) (by decide) rfl rfl ?_
            refine gh_getI (k := 24) (t := 0) dc_X6_order_62 fl_RX6_254 (by decide) (by decide) rfl rfl ?_
            refine gh_goto (tgt := 77) dc_X6_order_65 rfl ?_
            exact gh_iret dc_X6_order_77 hE rfl hw
        · replace hw := hw.2 c8
          refine gh_ldc (v := (-1000000 : Int32)) dc_X6_order_39 tw_508 ?_
          exact gh_iret dc_X6_order_41 hE rfl hw
      · replace hw := hw.2 c7
        refine gh_ldc (v := (-1000001 : Int32)) dc_X6_order_25 tw_281 ?_
        exact gh_iret dc_X6_order_27 hE rfl hw
  · replace hw := hw.2 c3
    refine gh_ldc (v := (-1000002 : Int32)) dc_X6_order_7 tw_402 ?_
    exact gh_iret dc_X6_order_9 hE rfl hw
theorem lk_X2_mostAt_9 {wd : gh_Wd} {x : gh_X} {Q : Int32 → gh_M → Prop} {t0 : Nat} (ht0 : t0 < 29) (hE : gh_E wd (gh_Qi Q) x)   : ∀ (n : Nat) (x2 : Int32) (x3 : Int32) (x4 : Int32) (x5 : Int32) (x6 : Int32) (x7 : Int32) (M : gh_M), wl_X2_mostAt_9 t0 Q n x2 x3 x4 x5 x6 x7 M → gh_J mi_X2_mostAt 6 wd x M 9 [some (vR 24 0), some (vR 6 t0), some (vI x2), some (vI x3), some (vI x4), some (vI x5), some (vI x6), some (vI x7)] [] := by
  intro n
  induction n with
  | zero => intro x2 x3 x4 x5 x6 x7 M hw; exact hw.elim
  | succ n ih =>
    intro x2 x3 x4 x5 x6 x7 M hw
    unfold wl_X2_mostAt_9 at hw
    refine gh_iload dc_X2_mostAt_9 rfl ?_
    refine gh_aload_n dc_X2_mostAt_11 rfl ?_
    refine gh_getI (k := 6) (t := t0) dc_X2_mostAt_12 fl_RX2_107 (by decide) ht0 rfl rfl ?_
    refine gh_icmp_ge (tgt := 76) dc_X2_mostAt_15 rfl (fun c1 => ?_) (fun c1 => ?_)
    · replace hw := hw.1 c1
      refine gh_iload dc_X2_mostAt_76 rfl ?_
      refine gh_if_ne (tgt := 86) dc_X2_mostAt_78 rfl (fun c2 => ?_) (fun c2 => ?_)
      · replace hw := hw.1 c2
        refine gh_iload dc_X2_mostAt_86 rfl ?_
        exact gh_iret dc_X2_mostAt_88 hE rfl hw
      · replace hw := hw.2 c2
        refine gh_iload dc_X2_mostAt_81 rfl ?_
        refine gh_goto (tgt := 88) dc_X2_mostAt_83 rfl ?_
        exact gh_iret dc_X2_mostAt_88 hE rfl hw
    · replace hw := hw.2 c1
      refine gh_aload_n dc_X2_mostAt_18 rfl ?_
      refine gh_getR (k := 24) (t := 0) dc_X2_mostAt_19 fl_RX2_12 (by decide) (by decide) rfl rfl ?_
      refine gh_aload_n dc_X2_mostAt_22 rfl ?_
      refine gh_callVv (mi' := mi_X5_copyFrom) (as := [vR 6 t0]) (S := []) (k := 6) (t := 28) dc_X2_mostAt_23 ml_RX2_38 ok_X5_copyFrom rfl rfl (by decide) (Nat.le_of_ble_eq_true rfl) (by decide) (by decide) rfl rfl (wk_X5_copyFrom (by decide) ht0 _ _ hw) (fun M4 hw => ?_)
      refine gh_aload_n dc_X2_mostAt_26 rfl ?_
      refine gh_getR (k := 24) (t := 0) dc_X2_mostAt_27 fl_RX2_12 (by decide) (by decide) rfl rfl ?_
      refine gh_getR (k := 6) (t := 28) dc_X2_mostAt_30 fl_RX2_110 (by decide) (by decide) rfl rfl ?_
      refine gh_iload_n dc_X2_mostAt_33 rfl ?_
      refine gh_iload dc_X2_mostAt_34 rfl ?_
      obtain ⟨h5, hw⟩ := hw
      refine gh_iast (k := 8) (t := 28) dc_X2_mostAt_36 rfl (by decide) (by decide) h5 ?_
      obtain ⟨M6, eM6⟩ : ∃ z, z = (gh_st M4 8 28 x2.toNatClampNeg x7) := ⟨_, rfl⟩
      rw [← eM6]
      replace hw := hw _ eM6
      refine gh_aload_n dc_X2_mostAt_37 rfl ?_
      refine gh_getR (k := 24) (t := 0) dc_X2_mostAt_38 fl_RX2_12 (by decide) (by decide) rfl rfl ?_
      refine gh_iload_n dc_X2_mostAt_41 rfl ?_
      refine gh_callVv (mi' := mi_X5_tickOnFor) (as := [vI x3]) (S := []) (k := 6) (t := 28) dc_X2_mostAt_42 ml_RX2_42 ok_X5_tickOnFor rfl rfl (by decide) (Nat.le_of_ble_eq_true rfl) (by decide) (by decide) rfl rfl (wk_X5_tickOnFor (by decide) _ _ _ hw) (fun M8 hw => ?_)
      refine gh_aload_n dc_X2_mostAt_45 rfl ?_
      refine gh_getR (k := 24) (t := 0) dc_X2_mostAt_46 fl_RX2_12 (by decide) (by decide) rfl rfl ?_
      refine gh_callVi (mi' := mi_X5_allScreams) (as := []) (S := []) (k := 6) (t := 28) dc_X2_mostAt_49 ml_RX2_80 ok_X5_allScreams rfl rfl (by decide) (Nat.le_of_ble_eq_true rfl) (by decide) (by decide) rfl rfl (wk_X5_allScreams (by decide) _ _ hw) (fun r9 M10 hw => ?_)
      refine gh_iload dc_X2_mostAt_52 rfl ?_
      refine gh_icmp_le (tgt := 70) dc_X2_mostAt_54 rfl (fun c11 => ?_) (fun c11 => ?_)
      · replace hw := hw.1 c11
        obtain ⟨y7_12, ey7_12⟩ : ∃ z, z = (x7 + (nI 1)) := ⟨_, rfl⟩
        replace hw := hw _ ey7_12
        refine gh_iinc (v := y7_12) (L' := [some (vR 24 0), some (vR 6 t0), some (vI x2), some (vI x3), some (vI x4), some (vI x5), some (vI x6), some (vI y7_12)]) dc_X2_mostAt_70 rfl ((congrArg (fun z => x7 + z) gc_1).trans ey7_12.symm) (by decide) rfl rfl ?_
        refine gh_goto (tgt := 9) dc_X2_mostAt_73 rfl ?_
        refine gh_drop (pc' := 0) [some (vR 24 0), some (vR 6 t0), some (vI x2), some (vI x3), some (vI x4), some (vI x5), some (vI x6), some (vI y7_12)] ⟨rfl, rfl, rfl, rfl, rfl, rfl, rfl, rfl, trivial⟩ ?_
        exact ih _ _ _ _ _ _ _ hw
      · replace hw := hw.2 c11
        refine gh_aload_n dc_X2_mostAt_57 rfl ?_
        refine gh_getR (k := 24) (t := 0) dc_X2_mostAt_58 fl_RX2_12 (by decide) (by decide) rfl rfl ?_
        refine gh_callVi (mi' := mi_X5_allScreams) (as := []) (S := []) (k := 6) (t := 28) dc_X2_mostAt_61 ml_RX2_80 ok_X5_allScreams rfl rfl (by decide) (Nat.le_of_ble_eq_true rfl) (by decide) (by decide) rfl rfl (wk_X5_allScreams (by decide) _ _ hw) (fun r13 M14 hw => ?_)
        refine gh_istore (L' := [some (vR 24 0), some (vR 6 t0), some (vI x2), some (vI x3), some (vI x4), some (vI x5), some (vI r13), some (vI x7)]) dc_X2_mostAt_64 (by decide) rfl rfl ?_
        refine gh_iload dc_X2_mostAt_66 rfl ?_
        refine gh_istore (L' := [some (vR 24 0), some (vR 6 t0), some (vI x2), some (vI x3), some (vI x4), some (vI x7), some (vI r13), some (vI x7)]) dc_X2_mostAt_68 (by decide) rfl rfl ?_
        obtain ⟨y7_15, ey7_15⟩ : ∃ z, z = (x7 + (nI 1)) := ⟨_, rfl⟩
        replace hw := hw _ ey7_15
        refine gh_iinc (v := y7_15) (L' := [some (vR 24 0), some (vR 6 t0), some (vI x2), some (vI x3), some (vI x4), some (vI x7), some (vI r13), some (vI y7_15)]) dc_X2_mostAt_70 rfl ((congrArg (fun z => x7 + z) gc_1).trans ey7_15.symm) (by decide) rfl rfl ?_
        refine gh_goto (tgt := 9) dc_X2_mostAt_73 rfl ?_
        refine gh_drop (pc' := 0) [some (vR 24 0), some (vR 6 t0), some (vI x2), some (vI x3), some (vI x4), some (vI x7), some (vI r13), some (vI y7_15)] ⟨rfl, rfl, rfl, rfl, rfl, rfl, rfl, rfl, trivial⟩ ?_
        exact ih _ _ _ _ _ _ _ hw
theorem wk_X2_mostAt {t0 : Nat} (ht0 : t0 < 29) (Q : Int32 → gh_M → Prop) (a0 : Int32) (a1 : Int32) (a2 : Int32) (M : gh_M) (hw : wp_X2_mostAt t0 a0 a1 a2 M Q) : gh_Calls 6 mi_X2_mostAt [vR 24 0, vR 6 t0, vI a0, vI a1, vI a2] M (gh_Qi Q) := by
  refine gh_of (by decide) rfl 3 rfl (L0 := [some (vR 24 0), some (vR 6 t0), some (vI a0), some (vI a1), some (vI a2), none, none, none]) rfl (fun wd x hE => ?_)
  unfold wp_X2_mostAt at hw
  refine gh_iconst (v := (nI 0)) dc_X2_mostAt_0 gc_0 ?_
  refine gh_istore (L' := [some (vR 24 0), some (vR 6 t0), some (vI a0), some (vI a1), some (vI a2), some (vI (nI 0)), none, none]) dc_X2_mostAt_1 (by decide) rfl rfl ?_
  refine gh_iconst (v := (-1 : Int32)) dc_X2_mostAt_3 gc_m1 ?_
  refine gh_istore (L' := [some (vR 24 0), some (vR 6 t0), some (vI a0), some (vI a1), some (vI a2), some (vI (nI 0)), some (vI (-1 : Int32)), none]) dc_X2_mostAt_4 (by decide) rfl rfl ?_
  refine gh_iconst (v := (nI 0)) dc_X2_mostAt_6 gc_0 ?_
  refine gh_istore (L' := [some (vR 24 0), some (vR 6 t0), some (vI a0), some (vI a1), some (vI a2), some (vI (nI 0)), some (vI (-1 : Int32)), some (vI (nI 0))]) dc_X2_mostAt_7 (by decide) rfl rfl ?_
  refine gh_drop (pc' := 0) [some (vR 24 0), some (vR 6 t0), some (vI a0), some (vI a1), some (vI a2), some (vI (nI 0)), some (vI (-1 : Int32)), some (vI (nI 0))] ⟨rfl, rfl, rfl, rfl, rfl, rfl, rfl, rfl, trivial⟩ ?_
  obtain ⟨k, hw⟩ := hw
  exact lk_X2_mostAt_9 ht0 hE  k _ _ _ _ _ _ _ hw
theorem wk_X6_spot   (Q : Int32 → gh_M → Prop) (a0 : Int32) (a1 : Int32) (a2 : Int32) (M : gh_M) (hw : wp_X6_spot  a0 a1 a2 M Q) : gh_Calls 7 mi_X6_spot [vR 0 0, vI a0, vI a1, vI a2] M (gh_Qi Q) := by
  refine gh_of (by decide) rfl 0 rfl (L0 := [some (vR 0 0), some (vI a0), some (vI a1), some (vI a2)]) rfl (fun wd x hE => ?_)
  unfold wp_X6_spot at hw
  refine gh_aload_n dc_X6_spot_0 rfl ?_
  refine gh_iload_n dc_X6_spot_1 rfl ?_
  refine gh_callVi (mi' := mi_X6_isTrick) (as := [vI a0]) (S := []) (k := 0) (t := 0) dc_X6_spot_2 ml_RX6_159 ok_X6_isTrick rfl rfl (by decide) (Nat.le_of_ble_eq_true rfl) (by decide) (by decide) rfl rfl (wk_X6_isTrick _ _ _ hw) (fun r1 M2 hw => ?_)
  refine gh_if_eq (tgt := 27) dc_X6_spot_5 rfl (fun c3 => ?_) (fun c3 => ?_)
  · replace hw := hw.1 c3
    refine gh_ldc (v := (-1000001 : Int32)) dc_X6_spot_27 tw_281 ?_
    exact gh_iret dc_X6_spot_29 hE rfl hw
  · replace hw := hw.2 c3
    refine gh_iload_n dc_X6_spot_8 rfl ?_
    refine gh_iconst (v := (nI 1)) dc_X6_spot_9 gc_1 ?_
    refine gh_bipush (v := (nI 50)) dc_X6_spot_10 gb_50 ?_
    refine gh_callSi (mi' := mi_X6_within) (as := [vI a1, vI (nI 1), vI (nI 50)]) (S := []) dc_X6_spot_12 ml_RX6_62 ok_X6_within rfl rfl (by decide) (Nat.le_of_ble_eq_true rfl) (wk_X6_within _ _ _ _ _ hw) (fun r4 M5 hw => ?_)
    refine gh_if_eq (tgt := 27) dc_X6_spot_15 rfl (fun c6 => ?_) (fun c6 => ?_)
    · replace hw := hw.1 c6
      refine gh_ldc (v := (-1000001 : Int32)) dc_X6_spot_27 tw_281 ?_
      exact gh_iret dc_X6_spot_29 hE rfl hw
    · replace hw := hw.2 c6
      refine gh_iload_n dc_X6_spot_18 rfl ?_
      refine gh_iconst (v := (nI 0)) dc_X6_spot_19 gc_0 ?_
      refine gh_iconst (v := (nI 1)) dc_X6_spot_20 gc_1 ?_
      refine gh_callSi (mi' := mi_X6_within) (as := [vI a2, vI (nI 0), vI (nI 1)]) (S := []) dc_X6_spot_21 ml_RX6_62 ok_X6_within rfl rfl (by decide) (Nat.le_of_ble_eq_true rfl) (wk_X6_within _ _ _ _ _ hw) (fun r7 M8 hw => ?_)
      refine gh_if_ne (tgt := 30) dc_X6_spot_24 rfl (fun c9 => ?_) (fun c9 => ?_)
      · replace hw := hw.1 c9
        refine gh_aload_n dc_X6_spot_30 rfl ?_
        refine gh_getR (k := 0) (t := 0) dc_X6_spot_31 fl_RX6_46 (by decide) (by decide) rfl rfl ?_
        refine gh_aload_n dc_X6_spot_34 rfl ?_
        refine gh_getR (k := 0) (t := 0) dc_X6_spot_35 fl_RX6_25 (by decide) (by decide) rfl rfl ?_
        refine gh_iload_n dc_X6_spot_38 rfl ?_
        refine gh_iload_n dc_X6_spot_39 rfl ?_
        refine gh_iload_n dc_X6_spot_40 rfl ?_
        refine gh_callVi (mi' := mi_X2_mostAt) (as := [vR 6 0, vI a0, vI a1, vI a2]) (S := []) (k := 24) (t := 0) dc_X6_spot_41 ml_RX6_260 ok_X2_mostAt rfl rfl (by decide) (Nat.le_of_ble_eq_true rfl) (by decide) (by decide) rfl rfl (wk_X2_mostAt (by decide) _ _ _ _ _ hw) (fun r10 M11 hw => ?_)
        exact gh_iret dc_X6_spot_44 hE rfl hw
      · replace hw := hw.2 c9
        refine gh_ldc (v := (-1000001 : Int32)) dc_X6_spot_27 tw_281 ?_
        exact gh_iret dc_X6_spot_29 hE rfl hw
theorem lk_X5_switchTo_2 {wd : gh_Wd} {x : gh_X} {Q : gh_M → Prop} {t0 : Nat} (ht0 : t0 < 29) (hE : gh_E wd (gh_Qv Q) x)   : ∀ (n : Nat) (x1 : Int32) (x2 : Int32) (M : gh_M), wl_X5_switchTo_2 t0 Q n x1 x2 M → gh_J mi_X5_switchTo 1 wd x M 2 [some (vR 6 t0), some (vI x1), some (vI x2)] [] := by
  intro n
  induction n with
  | zero => intro x1 x2 M hw; exact hw.elim
  | succ n ih =>
    intro x1 x2 M hw
    unfold wl_X5_switchTo_2 at hw
    refine gh_iload_n dc_X5_switchTo_2 rfl ?_
    refine gh_aload_n dc_X5_switchTo_3 rfl ?_
    refine gh_getI (k := 6) (t := t0) dc_X5_switchTo_4 fl_RX5_59 (by decide) ht0 rfl rfl ?_
    refine gh_icmp_ge (tgt := 36) dc_X5_switchTo_7 rfl (fun c1 => ?_) (fun c1 => ?_)
    · replace hw := hw.1 c1
      exact gh_vret dc_X5_switchTo_36 hE rfl hw
    · replace hw := hw.2 c1
      refine gh_aload_n dc_X5_switchTo_10 rfl ?_
      refine gh_getR (k := 6) (t := t0) dc_X5_switchTo_11 fl_RX5_21 (by decide) ht0 rfl rfl ?_
      refine gh_iload_n dc_X5_switchTo_14 rfl ?_
      refine gh_iload_n dc_X5_switchTo_15 rfl ?_
      refine gh_iload_n dc_X5_switchTo_16 rfl ?_
      refine gh_ishr dc_X5_switchTo_17 ?_
      refine gh_iconst (v := (nI 1)) dc_X5_switchTo_18 gc_1 ?_
      refine gh_iand dc_X5_switchTo_19 ?_
      refine gh_iconst (v := (nI 1)) dc_X5_switchTo_20 gc_1 ?_
      refine gh_icmp_ne (tgt := 28) dc_X5_switchTo_21 rfl (fun c2 => ?_) (fun c2 => ?_)
      · replace hw := hw.1 c2
        refine gh_iconst (v := (nI 0)) dc_X5_switchTo_28 gc_0 ?_
        obtain ⟨h3, hw⟩ := hw
        refine gh_zast (k := 10) (t := t0) dc_X5_switchTo_29 rfl (by decide) ht0 h3 ?_
        obtain ⟨M4, eM4⟩ : ∃ z, z = (gh_st M 10 t0 x2.toNatClampNeg ((nI 0) &&& 1)) := ⟨_, rfl⟩
        rw [← eM4]
        replace hw := hw _ eM4
        obtain ⟨y2_5, ey2_5⟩ : ∃ z, z = (x2 + (nI 1)) := ⟨_, rfl⟩
        replace hw := hw _ ey2_5
        refine gh_iinc (v := y2_5) (L' := [some (vR 6 t0), some (vI x1), some (vI y2_5)]) dc_X5_switchTo_30 rfl ((congrArg (fun z => x2 + z) gc_1).trans ey2_5.symm) (by decide) rfl rfl ?_
        refine gh_goto (tgt := 2) dc_X5_switchTo_33 rfl ?_
        refine gh_drop (pc' := 0) [some (vR 6 t0), some (vI x1), some (vI y2_5)] ⟨rfl, rfl, rfl, trivial⟩ ?_
        exact ih _ _ _ hw
      · replace hw := hw.2 c2
        refine gh_iconst (v := (nI 1)) dc_X5_switchTo_24 gc_1 ?_
        refine gh_goto (tgt := 29) dc_X5_switchTo_25 rfl ?_
        obtain ⟨h6, hw⟩ := hw
        refine gh_zast (k := 10) (t := t0) dc_X5_switchTo_29 rfl (by decide) ht0 h6 ?_
        obtain ⟨M7, eM7⟩ : ∃ z, z = (gh_st M 10 t0 x2.toNatClampNeg ((nI 1) &&& 1)) := ⟨_, rfl⟩
        rw [← eM7]
        replace hw := hw _ eM7
        obtain ⟨y2_8, ey2_8⟩ : ∃ z, z = (x2 + (nI 1)) := ⟨_, rfl⟩
        replace hw := hw _ ey2_8
        refine gh_iinc (v := y2_8) (L' := [some (vR 6 t0), some (vI x1), some (vI y2_8)]) dc_X5_switchTo_30 rfl ((congrArg (fun z => x2 + z) gc_1).trans ey2_8.symm) (by decide) rfl rfl ?_
        refine gh_goto (tgt := 2) dc_X5_switchTo_33 rfl ?_
        refine gh_drop (pc' := 0) [some (vR 6 t0), some (vI x1), some (vI y2_8)] ⟨rfl, rfl, rfl, trivial⟩ ?_
        exact ih _ _ _ hw
theorem wk_X5_switchTo {t0 : Nat} (ht0 : t0 < 29) (Q : gh_M → Prop) (a0 : Int32) (M : gh_M) (hw : wp_X5_switchTo t0 a0 M Q) : gh_Calls 1 mi_X5_switchTo [vR 6 t0, vI a0] M (gh_Qv Q) := by
  refine gh_of (by decide) rfl 1 rfl (L0 := [some (vR 6 t0), some (vI a0), none]) rfl (fun wd x hE => ?_)
  unfold wp_X5_switchTo at hw
  refine gh_iconst (v := (nI 0)) dc_X5_switchTo_0 gc_0 ?_
  refine gh_istore_n (L' := [some (vR 6 t0), some (vI a0), some (vI (nI 0))]) dc_X5_switchTo_1 (by decide) rfl rfl ?_
  refine gh_drop (pc' := 0) [some (vR 6 t0), some (vI a0), some (vI (nI 0))] ⟨rfl, rfl, rfl, trivial⟩ ?_
  obtain ⟨k, hw⟩ := hw
  exact lk_X5_switchTo_2 ht0 hE  k _ _ _ hw
theorem wk_X2_isCalm {t0 : Nat} (ht0 : t0 < 29) (Q : Int32 → gh_M → Prop) (a0 : Int32) (a1 : Int32) (M : gh_M) (hw : wp_X2_isCalm t0 a0 a1 M Q) : gh_Calls 6 mi_X2_isCalm [vR 24 0, vR 6 t0, vI a0, vI a1] M (gh_Qi Q) := by
  refine gh_of (by decide) rfl 0 rfl (L0 := [some (vR 24 0), some (vR 6 t0), some (vI a0), some (vI a1)]) rfl (fun wd x hE => ?_)
  unfold wp_X2_isCalm at hw
  refine gh_aload_n dc_X2_isCalm_0 rfl ?_
  refine gh_getR (k := 24) (t := 0) dc_X2_isCalm_1 fl_RX2_12 (by decide) (by decide) rfl rfl ?_
  refine gh_aload_n dc_X2_isCalm_4 rfl ?_
  refine gh_callVv (mi' := mi_X5_copyFrom) (as := [vR 6 t0]) (S := []) (k := 6) (t := 28) dc_X2_isCalm_5 ml_RX2_38 ok_X5_copyFrom rfl rfl (by decide) (Nat.le_of_ble_eq_true rfl) (by decide) (by decide) rfl rfl (wk_X5_copyFrom (by decide) ht0 _ _ hw) (fun M2 hw => ?_)
  refine gh_aload_n dc_X2_isCalm_8 rfl ?_
  refine gh_getR (k := 24) (t := 0) dc_X2_isCalm_9 fl_RX2_12 (by decide) (by decide) rfl rfl ?_
  refine gh_iload_n dc_X2_isCalm_12 rfl ?_
  refine gh_iconst (v := (-1 : Int32)) dc_X2_isCalm_13 gc_m1 ?_
  refine gh_ixor dc_X2_isCalm_14 ?_
  refine gh_callVv (mi' := mi_X5_switchTo) (as := [vI (a0 ^^^ (-1 : Int32))]) (S := []) (k := 6) (t := 28) dc_X2_isCalm_15 ml_RX2_120 ok_X5_switchTo rfl rfl (by decide) (Nat.le_of_ble_eq_true rfl) (by decide) (by decide) rfl rfl (wk_X5_switchTo (by decide) _ _ _ hw) (fun M4 hw => ?_)
  refine gh_aload_n dc_X2_isCalm_18 rfl ?_
  refine gh_getR (k := 24) (t := 0) dc_X2_isCalm_19 fl_RX2_12 (by decide) (by decide) rfl rfl ?_
  refine gh_iload_n dc_X2_isCalm_22 rfl ?_
  refine gh_callVv (mi' := mi_X5_tickOnFor) (as := [vI a1]) (S := []) (k := 6) (t := 28) dc_X2_isCalm_23 ml_RX2_42 ok_X5_tickOnFor rfl rfl (by decide) (Nat.le_of_ble_eq_true rfl) (by decide) (by decide) rfl rfl (wk_X5_tickOnFor (by decide) _ _ _ hw) (fun M6 hw => ?_)
  refine gh_aload_n dc_X2_isCalm_26 rfl ?_
  refine gh_getR (k := 24) (t := 0) dc_X2_isCalm_27 fl_RX2_12 (by decide) (by decide) rfl rfl ?_
  refine gh_callVi (mi' := mi_X5_allScreams) (as := []) (S := []) (k := 6) (t := 28) dc_X2_isCalm_30 ml_RX2_80 ok_X5_allScreams rfl rfl (by decide) (Nat.le_of_ble_eq_true rfl) (by decide) (by decide) rfl rfl (wk_X5_allScreams (by decide) _ _ hw) (fun r7 M8 hw => ?_)
  refine gh_aload_n dc_X2_isCalm_33 rfl ?_
  refine gh_callVi (mi' := mi_X5_allScreams) (as := []) (S := [vI r7]) (k := 6) (t := t0) dc_X2_isCalm_34 ml_RX2_80 ok_X5_allScreams rfl rfl (by decide) (Nat.le_of_ble_eq_true rfl) (by decide) ht0 rfl rfl (wk_X5_allScreams ht0 _ _ hw) (fun r9 M10 hw => ?_)
  refine gh_icmp_ne (tgt := 44) dc_X2_isCalm_37 rfl (fun c11 => ?_) (fun c11 => ?_)
  · replace hw := hw.1 c11
    refine gh_iconst (v := (nI 0)) dc_X2_isCalm_44 gc_0 ?_
    exact gh_zret dc_X2_isCalm_45 hE rfl (by decide) hw
  · replace hw := hw.2 c11
    refine gh_iconst (v := (nI 1)) dc_X2_isCalm_40 gc_1 ?_
    refine gh_goto (tgt := 45) dc_X2_isCalm_41 rfl ?_
    exact gh_zret dc_X2_isCalm_45 hE rfl (by decide) hw
theorem lk_X2_fewestOff_10 {wd : gh_Wd} {x : gh_X} {Q : Int32 → gh_M → Prop} {t0 : Nat} (ht0 : t0 < 29) (hE : gh_E wd (gh_Qi Q) x)   : ∀ (n : Nat) (x2 : Int32) (x3 : Int32) (x4 : Int32) (x5 : Int32) (M : gh_M), wl_X2_fewestOff_10 t0 Q n x2 x3 x4 x5 M → gh_J mi_X2_fewestOff 7 wd x M 10 [some (vR 24 0), some (vR 6 t0), some (vI x2), some (vI x3), some (vI x4), some (vI x5)] [] := by
  intro n
  induction n with
  | zero => intro x2 x3 x4 x5 M hw; exact hw.elim
  | succ n ih =>
    intro x2 x3 x4 x5 M hw
    unfold wl_X2_fewestOff_10 at hw
    refine gh_iload dc_X2_fewestOff_10 rfl ?_
    refine gh_iconst (v := (nI 1)) dc_X2_fewestOff_12 gc_1 ?_
    refine gh_aload_n dc_X2_fewestOff_13 rfl ?_
    refine gh_getI (k := 6) (t := t0) dc_X2_fewestOff_14 fl_RX2_113 (by decide) ht0 rfl rfl ?_
    refine gh_ishl dc_X2_fewestOff_17 ?_
    refine gh_icmp_ge (tgt := 58) dc_X2_fewestOff_18 rfl (fun c1 => ?_) (fun c1 => ?_)
    · replace hw := hw.1 c1
      refine gh_iload_n dc_X2_fewestOff_58 rfl ?_
      exact gh_iret dc_X2_fewestOff_59 hE rfl hw
    · replace hw := hw.2 c1
      refine gh_iload dc_X2_fewestOff_21 rfl ?_
      refine gh_callSi (mi' := mi_J6_bitCount_0f7a4) (as := [vI x5]) (S := []) dc_X2_fewestOff_23 ml_RX2_87 ok_J6_bitCount_0f7a4 rfl rfl (by decide) (Nat.le_of_ble_eq_true rfl) (wk_J6_bitCount_0f7a4 _ _ _ hw) (fun r2 M3 hw => ?_)
      refine gh_iload dc_X2_fewestOff_26 rfl ?_
      refine gh_icmp_ge (tgt := 52) dc_X2_fewestOff_28 rfl (fun c4 => ?_) (fun c4 => ?_)
      · replace hw := hw.1 c4
        obtain ⟨y5_5, ey5_5⟩ : ∃ z, z = (x5 + (nI 1)) := ⟨_, rfl⟩
        replace hw := hw _ ey5_5
        refine gh_iinc (v := y5_5) (L' := [some (vR 24 0), some (vR 6 t0), some (vI x2), some (vI x3), some (vI x4), some (vI y5_5)]) dc_X2_fewestOff_52 rfl ((congrArg (fun z => x5 + z) gc_1).trans ey5_5.symm) (by decide) rfl rfl ?_
        refine gh_goto (tgt := 10) dc_X2_fewestOff_55 rfl ?_
        refine gh_drop (pc' := 0) [some (vR 24 0), some (vR 6 t0), some (vI x2), some (vI x3), some (vI x4), some (vI y5_5)] ⟨rfl, rfl, rfl, rfl, rfl, rfl, trivial⟩ ?_
        exact ih _ _ _ _ _ hw
      · replace hw := hw.2 c4
        refine gh_aload_n dc_X2_fewestOff_31 rfl ?_
        refine gh_aload_n dc_X2_fewestOff_32 rfl ?_
        refine gh_iload dc_X2_fewestOff_33 rfl ?_
        refine gh_iload_n dc_X2_fewestOff_35 rfl ?_
        refine gh_callVi (mi' := mi_X2_isCalm) (as := [vR 6 t0, vI x5, vI x2]) (S := []) (k := 24) (t := 0) dc_X2_fewestOff_36 ml_RX2_116 ok_X2_isCalm rfl rfl (by decide) (Nat.le_of_ble_eq_true rfl) (by decide) (by decide) rfl rfl (wk_X2_isCalm ht0 _ _ _ _ hw) (fun r6 M7 hw => ?_)
        refine gh_if_eq (tgt := 52) dc_X2_fewestOff_39 rfl (fun c8 => ?_) (fun c8 => ?_)
        · replace hw := hw.1 c8
          obtain ⟨y5_9, ey5_9⟩ : ∃ z, z = (x5 + (nI 1)) := ⟨_, rfl⟩
          replace hw := hw _ ey5_9
          refine gh_iinc (v := y5_9) (L' := [some (vR 24 0), some (vR 6 t0), some (vI x2), some (vI x3), some (vI x4), some (vI y5_9)]) dc_X2_fewestOff_52 rfl ((congrArg (fun z => x5 + z) gc_1).trans ey5_9.symm) (by decide) rfl rfl ?_
          refine gh_goto (tgt := 10) dc_X2_fewestOff_55 rfl ?_
          refine gh_drop (pc' := 0) [some (vR 24 0), some (vR 6 t0), some (vI x2), some (vI x3), some (vI x4), some (vI y5_9)] ⟨rfl, rfl, rfl, rfl, rfl, rfl, trivial⟩ ?_
          exact ih _ _ _ _ _ hw
        · replace hw := hw.2 c8
          refine gh_iload dc_X2_fewestOff_42 rfl ?_
          refine gh_istore_n (L' := [some (vR 24 0), some (vR 6 t0), some (vI x2), some (vI x5), some (vI x4), some (vI x5)]) dc_X2_fewestOff_44 (by decide) rfl rfl ?_
          refine gh_iload dc_X2_fewestOff_45 rfl ?_
          refine gh_callSi (mi' := mi_J6_bitCount_0f7a4) (as := [vI x5]) (S := []) dc_X2_fewestOff_47 ml_RX2_87 ok_J6_bitCount_0f7a4 rfl rfl (by decide) (Nat.le_of_ble_eq_true rfl) (wk_J6_bitCount_0f7a4 _ _ _ hw) (fun r10 M11 hw => ?_)
          refine gh_istore (L' := [some (vR 24 0), some (vR 6 t0), some (vI x2), some (vI x5), some (vI r10), some (vI x5)]) dc_X2_fewestOff_50 (by decide) rfl rfl ?_
          obtain ⟨y5_12, ey5_12⟩ : ∃ z, z = (x5 + (nI 1)) := ⟨_, rfl⟩
          replace hw := hw _ ey5_12
          refine gh_iinc (v := y5_12) (L' := [some (vR 24 0), some (vR 6 t0), some (vI x2), some (vI x5), some (vI r10), some (vI y5_12)]) dc_X2_fewestOff_52 rfl ((congrArg (fun z => x5 + z) gc_1).trans ey5_12.symm) (by decide) rfl rfl ?_
          refine gh_goto (tgt := 10) dc_X2_fewestOff_55 rfl ?_
          refine gh_drop (pc' := 0) [some (vR 24 0), some (vR 6 t0), some (vI x2), some (vI x5), some (vI r10), some (vI y5_12)] ⟨rfl, rfl, rfl, rfl, rfl, rfl, trivial⟩ ?_
          exact ih _ _ _ _ _ hw
theorem wk_X2_fewestOff {t0 : Nat} (ht0 : t0 < 29) (Q : Int32 → gh_M → Prop) (a0 : Int32) (M : gh_M) (hw : wp_X2_fewestOff t0 a0 M Q) : gh_Calls 7 mi_X2_fewestOff [vR 24 0, vR 6 t0, vI a0] M (gh_Qi Q) := by
  refine gh_of (by decide) rfl 3 rfl (L0 := [some (vR 24 0), some (vR 6 t0), some (vI a0), none, none, none]) rfl (fun wd x hE => ?_)
  unfold wp_X2_fewestOff at hw
  refine gh_ldc (v := (-1000000 : Int32)) dc_X2_fewestOff_0 tw_572 ?_
  refine gh_istore_n (L' := [some (vR 24 0), some (vR 6 t0), some (vI a0), some (vI (-1000000 : Int32)), none, none]) dc_X2_fewestOff_2 (by decide) rfl rfl ?_
  refine gh_bipush (v := (nI 6)) dc_X2_fewestOff_3 gb_6 ?_
  refine gh_istore (L' := [some (vR 24 0), some (vR 6 t0), some (vI a0), some (vI (-1000000 : Int32)), some (vI (nI 6)), none]) dc_X2_fewestOff_5 (by decide) rfl rfl ?_
  refine gh_iconst (v := (nI 0)) dc_X2_fewestOff_7 gc_0 ?_
  refine gh_istore (L' := [some (vR 24 0), some (vR 6 t0), some (vI a0), some (vI (-1000000 : Int32)), some (vI (nI 6)), some (vI (nI 0))]) dc_X2_fewestOff_8 (by decide) rfl rfl ?_
  refine gh_drop (pc' := 0) [some (vR 24 0), some (vR 6 t0), some (vI a0), some (vI (-1000000 : Int32)), some (vI (nI 6)), some (vI (nI 0))] ⟨rfl, rfl, rfl, rfl, rfl, rfl, trivial⟩ ?_
  obtain ⟨k, hw⟩ := hw
  exact lk_X2_fewestOff_10 ht0 hE  k _ _ _ _ _ hw
theorem wk_X6_calm   (Q : Int32 → gh_M → Prop) (a0 : Int32) (a1 : Int32) (M : gh_M) (hw : wp_X6_calm  a0 a1 M Q) : gh_Calls 8 mi_X6_calm [vR 0 0, vI a0, vI a1] M (gh_Qi Q) := by
  refine gh_of (by decide) rfl 1 rfl (L0 := [some (vR 0 0), some (vI a0), some (vI a1), none]) rfl (fun wd x hE => ?_)
  unfold wp_X6_calm at hw
  refine gh_aload_n dc_X6_calm_0 rfl ?_
  refine gh_callVi (mi' := mi_X6_hasTrain) (as := []) (S := []) (k := 0) (t := 0) dc_X6_calm_1 ml_RX6_142 ok_X6_hasTrain rfl rfl (by decide) (Nat.le_of_ble_eq_true rfl) (by decide) (by decide) rfl rfl (wk_X6_hasTrain _ _ hw) (fun r1 M2 hw => ?_)
  refine gh_if_ne (tgt := 10) dc_X6_calm_4 rfl (fun c3 => ?_) (fun c3 => ?_)
  · replace hw := hw.1 c3
    refine gh_iload_n dc_X6_calm_10 rfl ?_
    refine gh_iconst (v := (nI 1)) dc_X6_calm_11 gc_1 ?_
    refine gh_bipush (v := (nI 50)) dc_X6_calm_12 gb_50 ?_
    refine gh_callSi (mi' := mi_X6_within) (as := [vI a0, vI (nI 1), vI (nI 50)]) (S := []) dc_X6_calm_14 ml_RX6_62 ok_X6_within rfl rfl (by decide) (Nat.le_of_ble_eq_true rfl) (wk_X6_within _ _ _ _ _ hw) (fun r4 M5 hw => ?_)
    refine gh_if_eq (tgt := 29) dc_X6_calm_17 rfl (fun c6 => ?_) (fun c6 => ?_)
    · replace hw := hw.1 c6
      refine gh_ldc (v := (-1000001 : Int32)) dc_X6_calm_29 tw_281 ?_
      exact gh_iret dc_X6_calm_31 hE rfl hw
    · replace hw := hw.2 c6
      refine gh_iload_n dc_X6_calm_20 rfl ?_
      refine gh_iconst (v := (nI 0)) dc_X6_calm_21 gc_0 ?_
      refine gh_iconst (v := (nI 1)) dc_X6_calm_22 gc_1 ?_
      refine gh_callSi (mi' := mi_X6_within) (as := [vI a1, vI (nI 0), vI (nI 1)]) (S := []) dc_X6_calm_23 ml_RX6_62 ok_X6_within rfl rfl (by decide) (Nat.le_of_ble_eq_true rfl) (wk_X6_within _ _ _ _ _ hw) (fun r7 M8 hw => ?_)
      refine gh_if_ne (tgt := 32) dc_X6_calm_26 rfl (fun c9 => ?_) (fun c9 => ?_)
      · replace hw := hw.1 c9
        refine gh_aload_n dc_X6_calm_32 rfl ?_
        refine gh_getR (k := 0) (t := 0) dc_X6_calm_33 fl_RX6_46 (by decide) (by decide) rfl rfl ?_
        refine gh_aload_n dc_X6_calm_36 rfl ?_
        refine gh_getR (k := 0) (t := 0) dc_X6_calm_37 fl_RX6_25 (by decide) (by decide) rfl rfl ?_
        refine gh_iload_n dc_X6_calm_40 rfl ?_
        refine gh_callVi (mi' := mi_X2_fewestOff) (as := [vR 6 0, vI a0]) (S := []) (k := 24) (t := 0) dc_X6_calm_41 ml_RX6_264 ok_X2_fewestOff rfl rfl (by decide) (Nat.le_of_ble_eq_true rfl) (by decide) (by decide) rfl rfl (wk_X2_fewestOff (by decide) _ _ _ hw) (fun r10 M11 hw => ?_)
        refine gh_istore_n (L' := [some (vR 0 0), some (vI a0), some (vI a1), some (vI r10)]) dc_X6_calm_44 (by decide) rfl rfl ?_
        refine gh_iload_n dc_X6_calm_45 rfl ?_
        refine gh_ldc (v := (-1000000 : Int32)) dc_X6_calm_46 tw_508 ?_
        refine gh_icmp_eq (tgt := 56) dc_X6_calm_48 rfl (fun c12 => ?_) (fun c12 => ?_)
        · replace hw := hw.1 c12
          refine gh_iload_n dc_X6_calm_56 rfl ?_
          refine gh_goto (tgt := 64) dc_X6_calm_57 rfl ?_
          exact gh_iret dc_X6_calm_64 hE rfl hw
        · replace hw := hw.2 c12
          refine gh_iload_n dc_X6_calm_51 rfl ?_
          refine gh_iconst (v := (nI 1)) dc_X6_calm_52 gc_1 ?_
          refine gh_icmp_ne (tgt := 60) dc_X6_calm_53 rfl (fun c13 => ?_) (fun c13 => ?_)
          · replace hw := hw.1 c13
            refine gh_iload_n dc_X6_calm_60 rfl ?_
            refine gh_callSi (mi' := mi_J6_bitCount_0f7a4) (as := [vI r10]) (S := []) dc_X6_calm_61 ml_RX6_268 ok_J6_bitCount_0f7a4 rfl rfl (by decide) (Nat.le_of_ble_eq_true rfl) (wk_J6_bitCount_0f7a4 _ _ _ hw) (fun r14 M15 hw => ?_)
            exact gh_iret dc_X6_calm_64 hE rfl hw
          · replace hw := hw.2 c13
            refine gh_iload_n dc_X6_calm_56 rfl ?_
            refine gh_goto (tgt := 64) dc_X6_calm_57 rfl ?_
            exact gh_iret dc_X6_calm_64 hE rfl hw
      · replace hw := hw.2 c9
        refine gh_ldc (v := (-1000001 : Int32)) dc_X6_calm_29 tw_281 ?_
        exact gh_iret dc_X6_calm_31 hE rfl hw
  · replace hw := hw.2 c3
    refine gh_ldc (v := (-1000002 : Int32)) dc_X6_calm_7 tw_402 ?_
    exact gh_iret dc_X6_calm_9 hE rfl hw
theorem lk_X2_leastNerve_3 {wd : gh_Wd} {x : gh_X} {Q : Int32 → gh_M → Prop} {t0 : Nat} (ht0 : t0 < 29) (hE : gh_E wd (gh_Qi Q) x)   : ∀ (n : Nat) (x2 : Int32) (x3 : Int32) (x4 : Int32) (M : gh_M), wl_X2_leastNerve_3 t0 Q n x2 x3 x4 M → gh_J mi_X2_leastNerve 6 wd x M 3 [some (vR 24 0), some (vR 6 t0), some (vI x2), some (vI x3), some (vI x4)] [] := by
  intro n
  induction n with
  | zero => intro x2 x3 x4 M hw; exact hw.elim
  | succ n ih =>
    intro x2 x3 x4 M hw
    unfold wl_X2_leastNerve_3 at hw
    refine gh_iload dc_X2_leastNerve_3 rfl ?_
    refine gh_bipush (v := (nI 60)) dc_X2_leastNerve_5 gb_60 ?_
    refine gh_icmp_gt (tgt := 64) dc_X2_leastNerve_7 rfl (fun c1 => ?_) (fun c1 => ?_)
    · replace hw := hw.1 c1
      refine gh_ldc (v := (-1000000 : Int32)) dc_X2_leastNerve_64 tw_572 ?_
      exact gh_iret dc_X2_leastNerve_66 hE rfl hw
    · replace hw := hw.2 c1
      refine gh_aload_n dc_X2_leastNerve_10 rfl ?_
      refine gh_getR (k := 24) (t := 0) dc_X2_leastNerve_11 fl_RX2_12 (by decide) (by decide) rfl rfl ?_
      refine gh_aload_n dc_X2_leastNerve_14 rfl ?_
      refine gh_callVv (mi' := mi_X5_copyFrom) (as := [vR 6 t0]) (S := []) (k := 6) (t := 28) dc_X2_leastNerve_15 ml_RX2_38 ok_X5_copyFrom rfl rfl (by decide) (Nat.le_of_ble_eq_true rfl) (by decide) (by decide) rfl rfl (wk_X5_copyFrom (by decide) ht0 _ _ hw) (fun M3 hw => ?_)
      refine gh_aload_n dc_X2_leastNerve_18 rfl ?_
      refine gh_getR (k := 24) (t := 0) dc_X2_leastNerve_19 fl_RX2_12 (by decide) (by decide) rfl rfl ?_
      refine gh_getR (k := 6) (t := 28) dc_X2_leastNerve_22 fl_RX2_123 (by decide) (by decide) rfl rfl ?_
      refine gh_iload_n dc_X2_leastNerve_25 rfl ?_
      refine gh_iload dc_X2_leastNerve_26 rfl ?_
      obtain ⟨h4, hw⟩ := hw
      refine gh_iast (k := 13) (t := 28) dc_X2_leastNerve_28 rfl (by decide) (by decide) h4 ?_
      obtain ⟨M5, eM5⟩ : ∃ z, z = (gh_st M3 13 28 x2.toNatClampNeg x4) := ⟨_, rfl⟩
      rw [← eM5]
      replace hw := hw _ eM5
      refine gh_aload_n dc_X2_leastNerve_29 rfl ?_
      refine gh_getR (k := 24) (t := 0) dc_X2_leastNerve_30 fl_RX2_12 (by decide) (by decide) rfl rfl ?_
      refine gh_iload_n dc_X2_leastNerve_33 rfl ?_
      refine gh_callVv (mi' := mi_X5_tickOnFor) (as := [vI x3]) (S := []) (k := 6) (t := 28) dc_X2_leastNerve_34 ml_RX2_42 ok_X5_tickOnFor rfl rfl (by decide) (Nat.le_of_ble_eq_true rfl) (by decide) (by decide) rfl rfl (wk_X5_tickOnFor (by decide) _ _ _ hw) (fun M7 hw => ?_)
      refine gh_aload_n dc_X2_leastNerve_37 rfl ?_
      refine gh_getR (k := 24) (t := 0) dc_X2_leastNerve_38 fl_RX2_12 (by decide) (by decide) rfl rfl ?_
      refine gh_getR (k := 6) (t := 28) dc_X2_leastNerve_41 fl_RX2_46 (by decide) (by decide) rfl rfl ?_
      refine gh_iload_n dc_X2_leastNerve_44 rfl ?_
      obtain ⟨h8, hw⟩ := hw
      refine gh_iald (k := 17) (t := 28) dc_X2_leastNerve_45 rfl (by decide) (by decide) h8 ?_
      refine gh_aload_n dc_X2_leastNerve_46 rfl ?_
      refine gh_getR (k := 6) (t := t0) dc_X2_leastNerve_47 fl_RX2_46 (by decide) ht0 rfl rfl ?_
      refine gh_iload_n dc_X2_leastNerve_50 rfl ?_
      obtain ⟨h9, hw⟩ := hw
      refine gh_iald (k := 17) (t := t0) dc_X2_leastNerve_51 rfl (by decide) ht0 h9 ?_
      refine gh_icmp_ne (tgt := 58) dc_X2_leastNerve_52 rfl (fun c10 => ?_) (fun c10 => ?_)
      · replace hw := hw.1 c10
        obtain ⟨y4_11, ey4_11⟩ : ∃ z, z = (x4 + (nI 1)) := ⟨_, rfl⟩
        replace hw := hw _ ey4_11
        refine gh_iinc (v := y4_11) (L' := [some (vR 24 0), some (vR 6 t0), some (vI x2), some (vI x3), some (vI y4_11)]) dc_X2_leastNerve_58 rfl ((congrArg (fun z => x4 + z) gc_1).trans ey4_11.symm) (by decide) rfl rfl ?_
        refine gh_goto (tgt := 3) dc_X2_leastNerve_61 rfl ?_
        refine gh_drop (pc' := 0) [some (vR 24 0), some (vR 6 t0), some (vI x2), some (vI x3), some (vI y4_11)] ⟨rfl, rfl, rfl, rfl, rfl, trivial⟩ ?_
        exact ih _ _ _ _ hw
      · replace hw := hw.2 c10
        refine gh_iload dc_X2_leastNerve_55 rfl ?_
        exact gh_iret dc_X2_leastNerve_57 hE rfl hw
theorem wk_X2_leastNerve {t0 : Nat} (ht0 : t0 < 29) (Q : Int32 → gh_M → Prop) (a0 : Int32) (a1 : Int32) (M : gh_M) (hw : wp_X2_leastNerve t0 a0 a1 M Q) : gh_Calls 6 mi_X2_leastNerve [vR 24 0, vR 6 t0, vI a0, vI a1] M (gh_Qi Q) := by
  refine gh_of (by decide) rfl 1 rfl (L0 := [some (vR 24 0), some (vR 6 t0), some (vI a0), some (vI a1), none]) rfl (fun wd x hE => ?_)
  unfold wp_X2_leastNerve at hw
  refine gh_iconst (v := (nI 1)) dc_X2_leastNerve_0 gc_1 ?_
  refine gh_istore (L' := [some (vR 24 0), some (vR 6 t0), some (vI a0), some (vI a1), some (vI (nI 1))]) dc_X2_leastNerve_1 (by decide) rfl rfl ?_
  refine gh_drop (pc' := 0) [some (vR 24 0), some (vR 6 t0), some (vI a0), some (vI a1), some (vI (nI 1))] ⟨rfl, rfl, rfl, rfl, rfl, trivial⟩ ?_
  obtain ⟨k, hw⟩ := hw
  exact lk_X2_leastNerve_3 ht0 hE  k _ _ _ _ hw
theorem wk_X6_bears   (Q : Int32 → gh_M → Prop) (a0 : Int32) (a1 : Int32) (M : gh_M) (hw : wp_X6_bears  a0 a1 M Q) : gh_Calls 7 mi_X6_bears [vR 0 0, vI a0, vI a1] M (gh_Qi Q) := by
  refine gh_of (by decide) rfl 0 rfl (L0 := [some (vR 0 0), some (vI a0), some (vI a1)]) rfl (fun wd x hE => ?_)
  unfold wp_X6_bears at hw
  refine gh_aload_n dc_X6_bears_0 rfl ?_
  refine gh_iload_n dc_X6_bears_1 rfl ?_
  refine gh_callVi (mi' := mi_X6_isCar) (as := [vI a0]) (S := []) (k := 0) (t := 0) dc_X6_bears_2 ml_RX6_176 ok_X6_isCar rfl rfl (by decide) (Nat.le_of_ble_eq_true rfl) (by decide) (by decide) rfl rfl (wk_X6_isCar _ _ _ hw) (fun r1 M2 hw => ?_)
  refine gh_if_eq (tgt := 18) dc_X6_bears_5 rfl (fun c3 => ?_) (fun c3 => ?_)
  · replace hw := hw.1 c3
    refine gh_ldc (v := (-1000001 : Int32)) dc_X6_bears_18 tw_281 ?_
    exact gh_iret dc_X6_bears_20 hE rfl hw
  · replace hw := hw.2 c3
    refine gh_iload_n dc_X6_bears_8 rfl ?_
    refine gh_iconst (v := (nI 1)) dc_X6_bears_9 gc_1 ?_
    refine gh_bipush (v := (nI 50)) dc_X6_bears_10 gb_50 ?_
    refine gh_callSi (mi' := mi_X6_within) (as := [vI a1, vI (nI 1), vI (nI 50)]) (S := []) dc_X6_bears_12 ml_RX6_62 ok_X6_within rfl rfl (by decide) (Nat.le_of_ble_eq_true rfl) (wk_X6_within _ _ _ _ _ hw) (fun r4 M5 hw => ?_)
    refine gh_if_ne (tgt := 21) dc_X6_bears_15 rfl (fun c6 => ?_) (fun c6 => ?_)
    · replace hw := hw.1 c6
      refine gh_aload_n dc_X6_bears_21 rfl ?_
      refine gh_getR (k := 0) (t := 0) dc_X6_bears_22 fl_RX6_46 (by decide) (by decide) rfl rfl ?_
      refine gh_aload_n dc_X6_bears_25 rfl ?_
      refine gh_getR (k := 0) (t := 0) dc_X6_bears_26 fl_RX6_25 (by decide) (by decide) rfl rfl ?_
      refine gh_iload_n dc_X6_bears_29 rfl ?_
      refine gh_iload_n dc_X6_bears_30 rfl ?_
      refine gh_callVi (mi' := mi_X2_leastNerve) (as := [vR 6 0, vI a0, vI a1]) (S := []) (k := 24) (t := 0) dc_X6_bears_31 ml_RX6_273 ok_X2_leastNerve rfl rfl (by decide) (Nat.le_of_ble_eq_true rfl) (by decide) (by decide) rfl rfl (wk_X2_leastNerve (by decide) _ _ _ _ hw) (fun r7 M8 hw => ?_)
      exact gh_iret dc_X6_bears_34 hE rfl hw
    · replace hw := hw.2 c6
      refine gh_ldc (v := (-1000001 : Int32)) dc_X6_bears_18 tw_281 ?_
      exact gh_iret dc_X6_bears_20 hE rfl hw
theorem lk_X5_ridersOf_4 {wd : gh_Wd} {x : gh_X} {Q : Int32 → gh_M → Prop} {t0 : Nat} (ht0 : t0 < 29) (hE : gh_E wd (gh_Qi Q) x)   : ∀ (n : Nat) (x1 : Int32) (x2 : Int32) (x3 : Int32) (M : gh_M), wl_X5_ridersOf_4 t0 Q n x1 x2 x3 M → gh_J mi_X5_ridersOf 1 wd x M 4 [some (vR 6 t0), some (vI x1), some (vI x2), some (vI x3)] [] := by
  intro n
  induction n with
  | zero => intro x1 x2 x3 M hw; exact hw.elim
  | succ n ih =>
    intro x1 x2 x3 M hw
    unfold wl_X5_ridersOf_4 at hw
    refine gh_iload_n dc_X5_ridersOf_4 rfl ?_
    refine gh_aload_n dc_X5_ridersOf_5 rfl ?_
    refine gh_getI (k := 6) (t := t0) dc_X5_ridersOf_6 fl_RX5_62 (by decide) ht0 rfl rfl ?_
    refine gh_icmp_ge (tgt := 33) dc_X5_ridersOf_9 rfl (fun c1 => ?_) (fun c1 => ?_)
    · replace hw := hw.1 c1
      refine gh_iload_n dc_X5_ridersOf_33 rfl ?_
      exact gh_iret dc_X5_ridersOf_34 hE rfl hw
    · replace hw := hw.2 c1
      refine gh_iload_n dc_X5_ridersOf_12 rfl ?_
      refine gh_iload_n dc_X5_ridersOf_13 rfl ?_
      refine gh_iload_n dc_X5_ridersOf_14 rfl ?_
      refine gh_ishr dc_X5_ridersOf_15 ?_
      refine gh_iconst (v := (nI 1)) dc_X5_ridersOf_16 gc_1 ?_
      refine gh_iand dc_X5_ridersOf_17 ?_
      refine gh_aload_n dc_X5_ridersOf_18 rfl ?_
      refine gh_getR (k := 6) (t := t0) dc_X5_ridersOf_19 fl_RX5_28 (by decide) ht0 rfl rfl ?_
      refine gh_iload_n dc_X5_ridersOf_22 rfl ?_
      obtain ⟨h2, hw⟩ := hw
      refine gh_iald (k := 12) (t := t0) dc_X5_ridersOf_23 rfl (by decide) ht0 h2 ?_
      refine gh_imul dc_X5_ridersOf_24 ?_
      refine gh_iadd dc_X5_ridersOf_25 ?_
      obtain ⟨y2_3, ey2_3⟩ : ∃ z, z = (x2 + (((x1 >>> (x3 &&& 31)) &&& (nI 1)) * (M 12 t0 x3.toNatClampNeg))) := ⟨_, rfl⟩
      rw [← ey2_3]
      replace hw := hw _ ey2_3
      refine gh_istore_n (L' := [some (vR 6 t0), some (vI x1), some (vI y2_3), some (vI x3)]) dc_X5_ridersOf_26 (by decide) rfl rfl ?_
      obtain ⟨y3_4, ey3_4⟩ : ∃ z, z = (x3 + (nI 1)) := ⟨_, rfl⟩
      replace hw := hw _ ey3_4
      refine gh_iinc (v := y3_4) (L' := [some (vR 6 t0), some (vI x1), some (vI y2_3), some (vI y3_4)]) dc_X5_ridersOf_27 rfl ((congrArg (fun z => x3 + z) gc_1).trans ey3_4.symm) (by decide) rfl rfl ?_
      refine gh_goto (tgt := 4) dc_X5_ridersOf_30 rfl ?_
      refine gh_drop (pc' := 0) [some (vR 6 t0), some (vI x1), some (vI y2_3), some (vI y3_4)] ⟨rfl, rfl, rfl, rfl, trivial⟩ ?_
      exact ih _ _ _ _ hw
theorem wk_X5_ridersOf {t0 : Nat} (ht0 : t0 < 29) (Q : Int32 → gh_M → Prop) (a0 : Int32) (M : gh_M) (hw : wp_X5_ridersOf t0 a0 M Q) : gh_Calls 1 mi_X5_ridersOf [vR 6 t0, vI a0] M (gh_Qi Q) := by
  refine gh_of (by decide) rfl 2 rfl (L0 := [some (vR 6 t0), some (vI a0), none, none]) rfl (fun wd x hE => ?_)
  unfold wp_X5_ridersOf at hw
  refine gh_iconst (v := (nI 0)) dc_X5_ridersOf_0 gc_0 ?_
  refine gh_istore_n (L' := [some (vR 6 t0), some (vI a0), some (vI (nI 0)), none]) dc_X5_ridersOf_1 (by decide) rfl rfl ?_
  refine gh_iconst (v := (nI 0)) dc_X5_ridersOf_2 gc_0 ?_
  refine gh_istore_n (L' := [some (vR 6 t0), some (vI a0), some (vI (nI 0)), some (vI (nI 0))]) dc_X5_ridersOf_3 (by decide) rfl rfl ?_
  refine gh_drop (pc' := 0) [some (vR 6 t0), some (vI a0), some (vI (nI 0)), some (vI (nI 0))] ⟨rfl, rfl, rfl, rfl, trivial⟩ ?_
  obtain ⟨k, hw⟩ := hw
  exact lk_X5_ridersOf_4 ht0 hE  k _ _ _ _ hw
theorem lk_X5_setsWith_24 {wd : gh_Wd} {x : gh_X} {Q : Int32 → gh_M → Prop} {t0 : Nat} (ht0 : t0 < 29) (hE : gh_E wd (gh_Qi Q) x)   : ∀ (n : Nat) (x1 : Int32) (x2 : Int32) (x3 : Int32) (x4 : Int32) (x5 : Int32) (x6 : Int32) (x7 : Int32) (M : gh_M), wl_X5_setsWith_24 t0 Q n x1 x2 x3 x4 x5 x6 x7 M → gh_J mi_X5_setsWith 4 wd x M 24 [some (vR 6 t0), some (vI x1), some (vI x2), some (vI x3), some (vI x4), some (vI x5), some (vI x6), some (vI x7)] [] := by
  intro n
  induction n with
  | zero => intro x1 x2 x3 x4 x5 x6 x7 M hw; exact hw.elim
  | succ n ih =>
    intro x1 x2 x3 x4 x5 x6 x7 M hw
    unfold wl_X5_setsWith_24 at hw
    refine gh_iload dc_X5_setsWith_24 rfl ?_
    refine gh_iconst (v := (nI 1)) dc_X5_setsWith_26 gc_1 ?_
    refine gh_aload_n dc_X5_setsWith_27 rfl ?_
    refine gh_getI (k := 6) (t := t0) dc_X5_setsWith_28 fl_RX5_62 (by decide) ht0 rfl rfl ?_
    refine gh_ishl dc_X5_setsWith_31 ?_
    refine gh_icmp_ge (tgt := 75) dc_X5_setsWith_32 rfl (fun c4 => ?_) (fun c4 => ?_)
    · replace hw := hw.1 c4
      refine gh_iload_n dc_X5_setsWith_75 rfl ?_
      refine gh_if_ne (tgt := 82) dc_X5_setsWith_76 rfl (fun c5 => ?_) (fun c5 => ?_)
      · replace hw := hw.1 c5
        refine gh_iload_n dc_X5_setsWith_82 rfl ?_
        refine gh_iconst (v := (nI 2)) dc_X5_setsWith_83 gc_2 ?_
        refine gh_icmp_ne (tgt := 90) dc_X5_setsWith_84 rfl (fun c6 => ?_) (fun c6 => ?_)
        · replace hw := hw.1 c6
          refine gh_iload dc_X5_setsWith_90 rfl ?_
          refine gh_if_ne (tgt := 99) dc_X5_setsWith_92 rfl (fun c7 => ?_) (fun c7 => ?_)
          · replace hw := hw.1 c7
            refine gh_iload dc_X5_setsWith_99 rfl ?_
            exact gh_iret dc_X5_setsWith_101 hE rfl hw
          · replace hw := hw.2 c7
            refine gh_iconst (v := (nI 0)) dc_X5_setsWith_95 gc_0 ?_
            refine gh_goto (tgt := 101) dc_X5_setsWith_96 rfl ?_
            exact gh_iret dc_X5_setsWith_101 hE rfl hw
        · replace hw := hw.2 c6
          refine gh_iload dc_X5_setsWith_87 rfl ?_
          exact gh_iret dc_X5_setsWith_89 hE rfl hw
      · replace hw := hw.2 c5
        refine gh_iload dc_X5_setsWith_79 rfl ?_
        exact gh_iret dc_X5_setsWith_81 hE rfl hw
    · replace hw := hw.2 c4
      refine gh_iload dc_X5_setsWith_35 rfl ?_
      refine gh_iload_n dc_X5_setsWith_37 rfl ?_
      refine gh_iand dc_X5_setsWith_38 ?_
      refine gh_if_ne (tgt := 69) dc_X5_setsWith_39 rfl (fun c8 => ?_) (fun c8 => ?_)
      · replace hw := hw.1 c8
        obtain ⟨y7_9, ey7_9⟩ : ∃ z, z = (x7 + (nI 1)) := ⟨_, rfl⟩
        replace hw := hw _ ey7_9
        refine gh_iinc (v := y7_9) (L' := [some (vR 6 t0), some (vI x1), some (vI x2), some (vI x3), some (vI x4), some (vI x5), some (vI x6), some (vI y7_9)]) dc_X5_setsWith_69 rfl ((congrArg (fun z => x7 + z) gc_1).trans ey7_9.symm) (by decide) rfl rfl ?_
        refine gh_goto (tgt := 24) dc_X5_setsWith_72 rfl ?_
        refine gh_drop (pc' := 0) [some (vR 6 t0), some (vI x1), some (vI x2), some (vI x3), some (vI x4), some (vI x5), some (vI x6), some (vI y7_9)] ⟨rfl, rfl, rfl, rfl, rfl, rfl, rfl, rfl, trivial⟩ ?_
        exact ih _ _ _ _ _ _ _ _ hw
      · replace hw := hw.2 c8
        refine gh_aload_n dc_X5_setsWith_42 rfl ?_
        refine gh_iload dc_X5_setsWith_43 rfl ?_
        refine gh_callVi (mi' := mi_X5_ridersOf) (as := [vI x7]) (S := []) (k := 6) (t := t0) dc_X5_setsWith_45 ml_RX5_129 ok_X5_ridersOf rfl rfl (by decide) (Nat.le_of_ble_eq_true rfl) (by decide) ht0 rfl rfl (wk_X5_ridersOf ht0 _ _ _ hw) (fun r10 M11 hw => ?_)
        refine gh_iload_n dc_X5_setsWith_48 rfl ?_
        refine gh_icmp_ne (tgt := 69) dc_X5_setsWith_49 rfl (fun c12 => ?_) (fun c12 => ?_)
        · replace hw := hw.1 c12
          obtain ⟨y7_13, ey7_13⟩ : ∃ z, z = (x7 + (nI 1)) := ⟨_, rfl⟩
          replace hw := hw _ ey7_13
          refine gh_iinc (v := y7_13) (L' := [some (vR 6 t0), some (vI x1), some (vI x2), some (vI x3), some (vI x4), some (vI x5), some (vI x6), some (vI y7_13)]) dc_X5_setsWith_69 rfl ((congrArg (fun z => x7 + z) gc_1).trans ey7_13.symm) (by decide) rfl rfl ?_
          refine gh_goto (tgt := 24) dc_X5_setsWith_72 rfl ?_
          refine gh_drop (pc' := 0) [some (vR 6 t0), some (vI x1), some (vI x2), some (vI x3), some (vI x4), some (vI x5), some (vI x6), some (vI y7_13)] ⟨rfl, rfl, rfl, rfl, rfl, rfl, rfl, rfl, trivial⟩ ?_
          exact ih _ _ _ _ _ _ _ _ hw
        · replace hw := hw.2 c12
          obtain ⟨y4_14, ey4_14⟩ : ∃ z, z = (x4 + (nI 1)) := ⟨_, rfl⟩
          replace hw := hw _ ey4_14
          refine gh_iinc (v := y4_14) (L' := [some (vR 6 t0), some (vI x1), some (vI x2), some (vI x3), some (vI y4_14), some (vI x5), some (vI x6), some (vI x7)]) dc_X5_setsWith_52 rfl ((congrArg (fun z => x4 + z) gc_1).trans ey4_14.symm) (by decide) rfl rfl ?_
          refine gh_iload dc_X5_setsWith_55 rfl ?_
          refine gh_iload dc_X5_setsWith_57 rfl ?_
          refine gh_iand dc_X5_setsWith_59 ?_
          obtain ⟨y5_15, ey5_15⟩ : ∃ z, z = (x5 &&& x7) := ⟨_, rfl⟩
          rw [← ey5_15]
          replace hw := hw _ ey5_15
          refine gh_istore (L' := [some (vR 6 t0), some (vI x1), some (vI x2), some (vI x3), some (vI y4_14), some (vI y5_15), some (vI x6), some (vI x7)]) dc_X5_setsWith_60 (by decide) rfl rfl ?_
          refine gh_iload dc_X5_setsWith_62 rfl ?_
          refine gh_iload dc_X5_setsWith_64 rfl ?_
          refine gh_ior dc_X5_setsWith_66 ?_
          obtain ⟨y6_16, ey6_16⟩ : ∃ z, z = (x6 ||| x7) := ⟨_, rfl⟩
          rw [← ey6_16]
          replace hw := hw _ ey6_16
          refine gh_istore (L' := [some (vR 6 t0), some (vI x1), some (vI x2), some (vI x3), some (vI y4_14), some (vI y5_15), some (vI y6_16), some (vI x7)]) dc_X5_setsWith_67 (by decide) rfl rfl ?_
          obtain ⟨y7_17, ey7_17⟩ : ∃ z, z = (x7 + (nI 1)) := ⟨_, rfl⟩
          replace hw := hw _ ey7_17
          refine gh_iinc (v := y7_17) (L' := [some (vR 6 t0), some (vI x1), some (vI x2), some (vI x3), some (vI y4_14), some (vI y5_15), some (vI y6_16), some (vI y7_17)]) dc_X5_setsWith_69 rfl ((congrArg (fun z => x7 + z) gc_1).trans ey7_17.symm) (by decide) rfl rfl ?_
          refine gh_goto (tgt := 24) dc_X5_setsWith_72 rfl ?_
          refine gh_drop (pc' := 0) [some (vR 6 t0), some (vI x1), some (vI x2), some (vI x3), some (vI y4_14), some (vI y5_15), some (vI y6_16), some (vI y7_17)] ⟨rfl, rfl, rfl, rfl, rfl, rfl, rfl, rfl, trivial⟩ ?_
          exact ih _ _ _ _ _ _ _ _ hw
theorem wk_X5_setsWith {t0 : Nat} (ht0 : t0 < 29) (Q : Int32 → gh_M → Prop) (a0 : Int32) (a1 : Int32) (M : gh_M) (hw : wp_X5_setsWith t0 a0 a1 M Q) : gh_Calls 4 mi_X5_setsWith [vR 6 t0, vI a0, vI a1] M (gh_Qi Q) := by
  refine gh_of (by decide) rfl 5 rfl (L0 := [some (vR 6 t0), some (vI a0), some (vI a1), none, none, none, none, none]) rfl (fun wd x hE => ?_)
  unfold wp_X5_setsWith at hw
  refine gh_aload_n dc_X5_setsWith_0 rfl ?_
  refine gh_callVi (mi' := mi_X5_bitsOut) (as := []) (S := []) (k := 6) (t := t0) dc_X5_setsWith_1 ml_RX5_125 ok_X5_bitsOut rfl rfl (by decide) (Nat.le_of_ble_eq_true rfl) (by decide) ht0 rfl rfl (wk_X5_bitsOut ht0 _ _ hw) (fun r1 M2 hw => ?_)
  refine gh_istore_n (L' := [some (vR 6 t0), some (vI a0), some (vI a1), some (vI r1), none, none, none, none]) dc_X5_setsWith_4 (by decide) rfl rfl ?_
  refine gh_iconst (v := (nI 0)) dc_X5_setsWith_5 gc_0 ?_
  refine gh_istore (L' := [some (vR 6 t0), some (vI a0), some (vI a1), some (vI r1), some (vI (nI 0)), none, none, none]) dc_X5_setsWith_6 (by decide) rfl rfl ?_
  refine gh_iconst (v := (nI 1)) dc_X5_setsWith_8 gc_1 ?_
  refine gh_aload_n dc_X5_setsWith_9 rfl ?_
  refine gh_getI (k := 6) (t := t0) dc_X5_setsWith_10 fl_RX5_62 (by decide) ht0 rfl rfl ?_
  refine gh_ishl dc_X5_setsWith_13 ?_
  refine gh_iconst (v := (nI 1)) dc_X5_setsWith_14 gc_1 ?_
  refine gh_isub dc_X5_setsWith_15 ?_
  obtain ⟨y5_3, ey5_3⟩ : ∃ z, z = (((nI 1) <<< ((M2 6 t0 2) &&& 31)) - (nI 1)) := ⟨_, rfl⟩
  rw [← ey5_3]
  replace hw := hw _ ey5_3
  refine gh_istore (L' := [some (vR 6 t0), some (vI a0), some (vI a1), some (vI r1), some (vI (nI 0)), some (vI y5_3), none, none]) dc_X5_setsWith_16 (by decide) rfl rfl ?_
  refine gh_iconst (v := (nI 0)) dc_X5_setsWith_18 gc_0 ?_
  refine gh_istore (L' := [some (vR 6 t0), some (vI a0), some (vI a1), some (vI r1), some (vI (nI 0)), some (vI y5_3), some (vI (nI 0)), none]) dc_X5_setsWith_19 (by decide) rfl rfl ?_
  refine gh_iconst (v := (nI 0)) dc_X5_setsWith_21 gc_0 ?_
  refine gh_istore (L' := [some (vR 6 t0), some (vI a0), some (vI a1), some (vI r1), some (vI (nI 0)), some (vI y5_3), some (vI (nI 0)), some (vI (nI 0))]) dc_X5_setsWith_22 (by decide) rfl rfl ?_
  refine gh_drop (pc' := 0) [some (vR 6 t0), some (vI a0), some (vI a1), some (vI r1), some (vI (nI 0)), some (vI y5_3), some (vI (nI 0)), some (vI (nI 0))] ⟨rfl, rfl, rfl, rfl, rfl, rfl, rfl, rfl, trivial⟩ ?_
  obtain ⟨k, hw⟩ := hw
  exact lk_X5_setsWith_24 ht0 hE  k _ _ _ _ _ _ _ _ hw
theorem wk_X6_sets   (Q : Int32 → gh_M → Prop) (a0 : Int32) (a1 : Int32) (M : gh_M) (hw : wp_X6_sets  a0 a1 M Q) : gh_Calls 5 mi_X6_sets [vR 0 0, vI a0, vI a1] M (gh_Qi Q) := by
  refine gh_of (by decide) rfl 0 rfl (L0 := [some (vR 0 0), some (vI a0), some (vI a1)]) rfl (fun wd x hE => ?_)
  unfold wp_X6_sets at hw
  refine gh_aload_n dc_X6_sets_0 rfl ?_
  refine gh_callVi (mi' := mi_X6_hasTrain) (as := []) (S := []) (k := 0) (t := 0) dc_X6_sets_1 ml_RX6_142 ok_X6_hasTrain rfl rfl (by decide) (Nat.le_of_ble_eq_true rfl) (by decide) (by decide) rfl rfl (wk_X6_hasTrain _ _ hw) (fun r1 M2 hw => ?_)
  refine gh_if_ne (tgt := 10) dc_X6_sets_4 rfl (fun c3 => ?_) (fun c3 => ?_)
  · replace hw := hw.1 c3
    refine gh_iload_n dc_X6_sets_10 rfl ?_
    refine gh_iconst (v := (nI 0)) dc_X6_sets_11 gc_0 ?_
    refine gh_bipush (v := (nI 24)) dc_X6_sets_12 gb_24 ?_
    refine gh_callSi (mi' := mi_X6_within) (as := [vI a0, vI (nI 0), vI (nI 24)]) (S := []) dc_X6_sets_14 ml_RX6_62 ok_X6_within rfl rfl (by decide) (Nat.le_of_ble_eq_true rfl) (wk_X6_within _ _ _ _ _ hw) (fun r4 M5 hw => ?_)
    refine gh_if_eq (tgt := 29) dc_X6_sets_17 rfl (fun c6 => ?_) (fun c6 => ?_)
    · replace hw := hw.1 c6
      refine gh_ldc (v := (-1000001 : Int32)) dc_X6_sets_29 tw_281 ?_
      exact gh_iret dc_X6_sets_31 hE rfl hw
    · replace hw := hw.2 c6
      refine gh_iload_n dc_X6_sets_20 rfl ?_
      refine gh_iconst (v := (nI 0)) dc_X6_sets_21 gc_0 ?_
      refine gh_iconst (v := (nI 2)) dc_X6_sets_22 gc_2 ?_
      refine gh_callSi (mi' := mi_X6_within) (as := [vI a1, vI (nI 0), vI (nI 2)]) (S := []) dc_X6_sets_23 ml_RX6_62 ok_X6_within rfl rfl (by decide) (Nat.le_of_ble_eq_true rfl) (wk_X6_within _ _ _ _ _ hw) (fun r7 M8 hw => ?_)
      refine gh_if_ne (tgt := 32) dc_X6_sets_26 rfl (fun c9 => ?_) (fun c9 => ?_)
      · replace hw := hw.1 c9
        refine gh_aload_n dc_X6_sets_32 rfl ?_
        refine gh_getR (k := 0) (t := 0) dc_X6_sets_33 fl_RX6_25 (by decide) (by decide) rfl rfl ?_
        refine gh_iload_n dc_X6_sets_36 rfl ?_
        refine gh_iload_n dc_X6_sets_37 rfl ?_
        refine gh_callVi (mi' := mi_X5_setsWith) (as := [vI a0, vI a1]) (S := []) (k := 6) (t := 0) dc_X6_sets_38 ml_RX6_276 ok_X5_setsWith rfl rfl (by decide) (Nat.le_of_ble_eq_true rfl) (by decide) (by decide) rfl rfl (wk_X5_setsWith (by decide) _ _ _ _ hw) (fun r10 M11 hw => ?_)
        exact gh_iret dc_X6_sets_41 hE rfl hw
      · replace hw := hw.2 c9
        refine gh_ldc (v := (-1000001 : Int32)) dc_X6_sets_29 tw_281 ?_
        exact gh_iret dc_X6_sets_31 hE rfl hw
  · replace hw := hw.2 c3
    refine gh_ldc (v := (-1000002 : Int32)) dc_X6_sets_7 tw_402 ?_
    exact gh_iret dc_X6_sets_9 hE rfl hw
theorem lk_X5_takings_20 {wd : gh_Wd} {x : gh_X} {Q : Int32 → gh_M → Prop} {t0 : Nat} (ht0 : t0 < 29) (hE : gh_E wd (gh_Qi Q) x)   : ∀ (n : Nat) (x1 : Int32) (x2 : Int32) (x3 : Int32) (x4 : Int32) (x5 : Int32) (x6 : Int32) (M : gh_M), wl_X5_takings_20 t0 Q n x1 x2 x3 x4 x5 x6 M → gh_J mi_X5_takings 3 wd x M 20 [some (vR 6 t0), some (vI x1), some (vI x2), some (vI x3), some (vI x4), some (vI x5), some (vI x6)] [] := by
  intro n
  induction n with
  | zero => intro x1 x2 x3 x4 x5 x6 M hw; exact hw.elim
  | succ n ih =>
    intro x1 x2 x3 x4 x5 x6 M hw
    unfold wl_X5_takings_20 at hw
    refine gh_iload dc_X5_takings_20 rfl ?_
    refine gh_aload_n dc_X5_takings_22 rfl ?_
    refine gh_getI (k := 6) (t := t0) dc_X5_takings_23 fl_RX5_59 (by decide) ht0 rfl rfl ?_
    refine gh_icmp_ge (tgt := 80) dc_X5_takings_26 rfl (fun c4 => ?_) (fun c4 => ?_)
    · replace hw := hw.1 c4
      refine gh_iload_n dc_X5_takings_80 rfl ?_
      refine gh_aload_n dc_X5_takings_81 rfl ?_
      refine gh_getR (k := 6) (t := t0) dc_X5_takings_82 fl_RX5_25 (by decide) ht0 rfl rfl ?_
      refine gh_iload_n dc_X5_takings_85 rfl ?_
      obtain ⟨h5, hw⟩ := hw
      refine gh_iald (k := 11) (t := t0) dc_X5_takings_86 rfl (by decide) ht0 h5 ?_
      refine gh_imul dc_X5_takings_87 ?_
      refine gh_iload_n dc_X5_takings_88 rfl ?_
      obtain ⟨h6, hw⟩ := hw
      refine gh_idiv dc_X5_takings_89 h6 ?_
      refine gh_aload_n dc_X5_takings_90 rfl ?_
      refine gh_getR (k := 6) (t := t0) dc_X5_takings_91 fl_RX5_25 (by decide) ht0 rfl rfl ?_
      refine gh_iload_n dc_X5_takings_94 rfl ?_
      obtain ⟨h7, hw⟩ := hw
      refine gh_iald (k := 11) (t := t0) dc_X5_takings_95 rfl (by decide) ht0 h7 ?_
      refine gh_if_le (tgt := 110) dc_X5_takings_96 rfl (fun c8 => ?_) (fun c8 => ?_)
      · replace hw := hw.1 c8
        refine gh_iconst (v := (nI 0)) dc_X5_takings_110 gc_0 ?_
        refine gh_callSi (mi' := mi_X6_oneIf) (as := [vI (nI 0)]) (S := [vI ((x2 * (M 11 t0 x1.toNatClampNeg)) / x3)]) dc_X5_takings_111 ml_RX5_117 ok_X6_oneIf rfl rfl (by decide) (Nat.le_of_ble_eq_true rfl) (wk_X6_oneIf _ _ _ hw) (fun r9 M10 hw => ?_)
        refine gh_iadd dc_X5_takings_114 ?_
        exact gh_iret dc_X5_takings_115 hE rfl hw
      · replace hw := hw.2 c8
        refine gh_iload dc_X5_takings_99 rfl ?_
        refine gh_iload dc_X5_takings_101 rfl ?_
        refine gh_icmp_ge (tgt := 110) dc_X5_takings_103 rfl (fun c11 => ?_) (fun c11 => ?_)
        · replace hw := hw.1 c11
          refine gh_iconst (v := (nI 0)) dc_X5_takings_110 gc_0 ?_
          refine gh_callSi (mi' := mi_X6_oneIf) (as := [vI (nI 0)]) (S := [vI ((x2 * (M 11 t0 x1.toNatClampNeg)) / x3)]) dc_X5_takings_111 ml_RX5_117 ok_X6_oneIf rfl rfl (by decide) (Nat.le_of_ble_eq_true rfl) (wk_X6_oneIf _ _ _ hw) (fun r12 M13 hw => ?_)
          refine gh_iadd dc_X5_takings_114 ?_
          exact gh_iret dc_X5_takings_115 hE rfl hw
        · replace hw := hw.2 c11
          refine gh_iconst (v := (nI 1)) dc_X5_takings_106 gc_1 ?_
          refine gh_goto (tgt := 111) dc_X5_takings_107 rfl ?_
          refine gh_callSi (mi' := mi_X6_oneIf) (as := [vI (nI 1)]) (S := [vI ((x2 * (M 11 t0 x1.toNatClampNeg)) / x3)]) dc_X5_takings_111 ml_RX5_117 ok_X6_oneIf rfl rfl (by decide) (Nat.le_of_ble_eq_true rfl) (wk_X6_oneIf _ _ _ hw) (fun r14 M15 hw => ?_)
          refine gh_iadd dc_X5_takings_114 ?_
          exact gh_iret dc_X5_takings_115 hE rfl hw
    · replace hw := hw.2 c4
      refine gh_iload dc_X5_takings_29 rfl ?_
      refine gh_iload_n dc_X5_takings_31 rfl ?_
      refine gh_aload_n dc_X5_takings_32 rfl ?_
      refine gh_getR (k := 6) (t := t0) dc_X5_takings_33 fl_RX5_25 (by decide) ht0 rfl rfl ?_
      refine gh_iload dc_X5_takings_36 rfl ?_
      obtain ⟨h16, hw⟩ := hw
      refine gh_iald (k := 11) (t := t0) dc_X5_takings_38 rfl (by decide) ht0 h16 ?_
      refine gh_imul dc_X5_takings_39 ?_
      refine gh_iload_n dc_X5_takings_40 rfl ?_
      obtain ⟨h17, hw⟩ := hw
      refine gh_idiv dc_X5_takings_41 h17 ?_
      refine gh_isub dc_X5_takings_42 ?_
      obtain ⟨y4_18, ey4_18⟩ : ∃ z, z = (x4 - ((x2 * (M 11 t0 x6.toNatClampNeg)) / x3)) := ⟨_, rfl⟩
      rw [← ey4_18]
      replace hw := hw _ ey4_18
      refine gh_istore (L' := [some (vR 6 t0), some (vI x1), some (vI x2), some (vI x3), some (vI y4_18), some (vI x5), some (vI x6)]) dc_X5_takings_43 (by decide) rfl rfl ?_
      refine gh_iload dc_X5_takings_45 rfl ?_
      refine gh_iload dc_X5_takings_47 rfl ?_
      refine gh_iload_n dc_X5_takings_49 rfl ?_
      refine gh_icmp_ge (tgt := 67) dc_X5_takings_50 rfl (fun c19 => ?_) (fun c19 => ?_)
      · replace hw := hw.1 c19
        refine gh_iconst (v := (nI 0)) dc_X5_takings_67 gc_0 ?_
        refine gh_callSi (mi' := mi_X6_oneIf) (as := [vI (nI 0)]) (S := [vI x5]) dc_X5_takings_68 ml_RX5_117 ok_X6_oneIf rfl rfl (by decide) (Nat.le_of_ble_eq_true rfl) (wk_X6_oneIf _ _ _ hw) (fun r20 M21 hw => ?_)
        refine gh_iadd dc_X5_takings_71 ?_
        obtain ⟨y5_22, ey5_22⟩ : ∃ z, z = (x5 + r20) := ⟨_, rfl⟩
        rw [← ey5_22]
        replace hw := hw _ ey5_22
        refine gh_istore (L' := [some (vR 6 t0), some (vI x1), some (vI x2), some (vI x3), some (vI y4_18), some (vI y5_22), some (vI x6)]) dc_X5_takings_72 (by decide) rfl rfl ?_
        obtain ⟨y6_23, ey6_23⟩ : ∃ z, z = (x6 + (nI 1)) := ⟨_, rfl⟩
        replace hw := hw _ ey6_23
        refine gh_iinc (v := y6_23) (L' := [some (vR 6 t0), some (vI x1), some (vI x2), some (vI x3), some (vI y4_18), some (vI y5_22), some (vI y6_23)]) dc_X5_takings_74 rfl ((congrArg (fun z => x6 + z) gc_1).trans ey6_23.symm) (by decide) rfl rfl ?_
        refine gh_goto (tgt := 20) dc_X5_takings_77 rfl ?_
        refine gh_drop (pc' := 0) [some (vR 6 t0), some (vI x1), some (vI x2), some (vI x3), some (vI y4_18), some (vI y5_22), some (vI y6_23)] ⟨rfl, rfl, rfl, rfl, rfl, rfl, rfl, trivial⟩ ?_
        exact ih _ _ _ _ _ _ _ hw
      · replace hw := hw.2 c19
        refine gh_aload_n dc_X5_takings_53 rfl ?_
        refine gh_getR (k := 6) (t := t0) dc_X5_takings_54 fl_RX5_25 (by decide) ht0 rfl rfl ?_
        refine gh_iload dc_X5_takings_57 rfl ?_
        obtain ⟨h24, hw⟩ := hw
        refine gh_iald (k := 11) (t := t0) dc_X5_takings_59 rfl (by decide) ht0 h24 ?_
        refine gh_if_le (tgt := 67) dc_X5_takings_60 rfl (fun c25 => ?_) (fun c25 => ?_)
        · replace hw := hw.1 c25
          refine gh_iconst (v := (nI 0)) dc_X5_takings_67 gc_0 ?_
          refine gh_callSi (mi' := mi_X6_oneIf) (as := [vI (nI 0)]) (S := [vI x5]) dc_X5_takings_68 ml_RX5_117 ok_X6_oneIf rfl rfl (by decide) (Nat.le_of_ble_eq_true rfl) (wk_X6_oneIf _ _ _ hw) (fun r26 M27 hw => ?_)
          refine gh_iadd dc_X5_takings_71 ?_
          obtain ⟨y5_28, ey5_28⟩ : ∃ z, z = (x5 + r26) := ⟨_, rfl⟩
          rw [← ey5_28]
          replace hw := hw _ ey5_28
          refine gh_istore (L' := [some (vR 6 t0), some (vI x1), some (vI x2), some (vI x3), some (vI y4_18), some (vI y5_28), some (vI x6)]) dc_X5_takings_72 (by decide) rfl rfl ?_
          obtain ⟨y6_29, ey6_29⟩ : ∃ z, z = (x6 + (nI 1)) := ⟨_, rfl⟩
          replace hw := hw _ ey6_29
          refine gh_iinc (v := y6_29) (L' := [some (vR 6 t0), some (vI x1), some (vI x2), some (vI x3), some (vI y4_18), some (vI y5_28), some (vI y6_29)]) dc_X5_takings_74 rfl ((congrArg (fun z => x6 + z) gc_1).trans ey6_29.symm) (by decide) rfl rfl ?_
          refine gh_goto (tgt := 20) dc_X5_takings_77 rfl ?_
          refine gh_drop (pc' := 0) [some (vR 6 t0), some (vI x1), some (vI x2), some (vI x3), some (vI y4_18), some (vI y5_28), some (vI y6_29)] ⟨rfl, rfl, rfl, rfl, rfl, rfl, rfl, trivial⟩ ?_
          exact ih _ _ _ _ _ _ _ hw
        · replace hw := hw.2 c25
          refine gh_iconst (v := (nI 1)) dc_X5_takings_63 gc_1 ?_
          refine gh_goto (tgt := 68) dc_X5_takings_64 rfl ?_
          refine gh_callSi (mi' := mi_X6_oneIf) (as := [vI (nI 1)]) (S := [vI x5]) dc_X5_takings_68 ml_RX5_117 ok_X6_oneIf rfl rfl (by decide) (Nat.le_of_ble_eq_true rfl) (wk_X6_oneIf _ _ _ hw) (fun r30 M31 hw => ?_)
          refine gh_iadd dc_X5_takings_71 ?_
          obtain ⟨y5_32, ey5_32⟩ : ∃ z, z = (x5 + r30) := ⟨_, rfl⟩
          rw [← ey5_32]
          replace hw := hw _ ey5_32
          refine gh_istore (L' := [some (vR 6 t0), some (vI x1), some (vI x2), some (vI x3), some (vI y4_18), some (vI y5_32), some (vI x6)]) dc_X5_takings_72 (by decide) rfl rfl ?_
          obtain ⟨y6_33, ey6_33⟩ : ∃ z, z = (x6 + (nI 1)) := ⟨_, rfl⟩
          replace hw := hw _ ey6_33
          refine gh_iinc (v := y6_33) (L' := [some (vR 6 t0), some (vI x1), some (vI x2), some (vI x3), some (vI y4_18), some (vI y5_32), some (vI y6_33)]) dc_X5_takings_74 rfl ((congrArg (fun z => x6 + z) gc_1).trans ey6_33.symm) (by decide) rfl rfl ?_
          refine gh_goto (tgt := 20) dc_X5_takings_77 rfl ?_
          refine gh_drop (pc' := 0) [some (vR 6 t0), some (vI x1), some (vI x2), some (vI x3), some (vI y4_18), some (vI y5_32), some (vI y6_33)] ⟨rfl, rfl, rfl, rfl, rfl, rfl, rfl, trivial⟩ ?_
          exact ih _ _ _ _ _ _ _ hw
theorem wk_X5_takings {t0 : Nat} (ht0 : t0 < 29) (Q : Int32 → gh_M → Prop) (a0 : Int32) (a1 : Int32) (M : gh_M) (hw : wp_X5_takings t0 a0 a1 M Q) : gh_Calls 3 mi_X5_takings [vR 6 t0, vI a0, vI a1] M (gh_Qi Q) := by
  refine gh_of (by decide) rfl 4 rfl (L0 := [some (vR 6 t0), some (vI a0), some (vI a1), none, none, none, none]) rfl (fun wd x hE => ?_)
  unfold wp_X5_takings at hw
  refine gh_aload_n dc_X5_takings_0 rfl ?_
  refine gh_callVi (mi' := mi_X5_allMet) (as := []) (S := []) (k := 6) (t := t0) dc_X5_takings_1 ml_RX5_133 ok_X5_allMet rfl rfl (by decide) (Nat.le_of_ble_eq_true rfl) (by decide) ht0 rfl rfl (wk_X5_allMet ht0 _ _ hw) (fun r1 M2 hw => ?_)
  refine gh_istore_n (L' := [some (vR 6 t0), some (vI a0), some (vI a1), some (vI r1), none, none, none]) dc_X5_takings_4 (by decide) rfl rfl ?_
  refine gh_iload_n dc_X5_takings_5 rfl ?_
  refine gh_if_ne (tgt := 11) dc_X5_takings_6 rfl (fun c3 => ?_) (fun c3 => ?_)
  · replace hw := hw.1 c3
    refine gh_iload_n dc_X5_takings_11 rfl ?_
    refine gh_istore (L' := [some (vR 6 t0), some (vI a0), some (vI a1), some (vI r1), some (vI a1), none, none]) dc_X5_takings_12 (by decide) rfl rfl ?_
    refine gh_iconst (v := (nI 0)) dc_X5_takings_14 gc_0 ?_
    refine gh_istore (L' := [some (vR 6 t0), some (vI a0), some (vI a1), some (vI r1), some (vI a1), some (vI (nI 0)), none]) dc_X5_takings_15 (by decide) rfl rfl ?_
    refine gh_iconst (v := (nI 0)) dc_X5_takings_17 gc_0 ?_
    refine gh_istore (L' := [some (vR 6 t0), some (vI a0), some (vI a1), some (vI r1), some (vI a1), some (vI (nI 0)), some (vI (nI 0))]) dc_X5_takings_18 (by decide) rfl rfl ?_
    refine gh_drop (pc' := 0) [some (vR 6 t0), some (vI a0), some (vI a1), some (vI r1), some (vI a1), some (vI (nI 0)), some (vI (nI 0))] ⟨rfl, rfl, rfl, rfl, rfl, rfl, rfl, trivial⟩ ?_
    obtain ⟨k, hw⟩ := hw
    exact lk_X5_takings_20 ht0 hE  k _ _ _ _ _ _ _ hw
  · replace hw := hw.2 c3
    refine gh_iconst (v := (nI 0)) dc_X5_takings_9 gc_0 ?_
    exact gh_iret dc_X5_takings_10 hE rfl hw
theorem wk_X6_share   (Q : Int32 → gh_M → Prop) (a0 : Int32) (a1 : Int32) (M : gh_M) (hw : wp_X6_share  a0 a1 M Q) : gh_Calls 4 mi_X6_share [vR 0 0, vI a0, vI a1] M (gh_Qi Q) := by
  refine gh_of (by decide) rfl 0 rfl (L0 := [some (vR 0 0), some (vI a0), some (vI a1)]) rfl (fun wd x hE => ?_)
  unfold wp_X6_share at hw
  refine gh_aload_n dc_X6_share_0 rfl ?_
  refine gh_iload_n dc_X6_share_1 rfl ?_
  refine gh_callVi (mi' := mi_X6_isTrick) (as := [vI a0]) (S := []) (k := 0) (t := 0) dc_X6_share_2 ml_RX6_159 ok_X6_isTrick rfl rfl (by decide) (Nat.le_of_ble_eq_true rfl) (by decide) (by decide) rfl rfl (wk_X6_isTrick _ _ _ hw) (fun r1 M2 hw => ?_)
  refine gh_if_eq (tgt := 19) dc_X6_share_5 rfl (fun c3 => ?_) (fun c3 => ?_)
  · replace hw := hw.1 c3
    refine gh_ldc (v := (-1000001 : Int32)) dc_X6_share_19 tw_281 ?_
    exact gh_iret dc_X6_share_21 hE rfl hw
  · replace hw := hw.2 c3
    refine gh_iload_n dc_X6_share_8 rfl ?_
    refine gh_iconst (v := (nI 0)) dc_X6_share_9 gc_0 ?_
    refine gh_sipush (v := (nI 999)) dc_X6_share_10 gs_999 ?_
    refine gh_callSi (mi' := mi_X6_within) (as := [vI a1, vI (nI 0), vI (nI 999)]) (S := []) dc_X6_share_13 ml_RX6_62 ok_X6_within rfl rfl (by decide) (Nat.le_of_ble_eq_true rfl) (wk_X6_within _ _ _ _ _ hw) (fun r4 M5 hw => ?_)
    refine gh_if_ne (tgt := 22) dc_X6_share_16 rfl (fun c6 => ?_) (fun c6 => ?_)
    · replace hw := hw.1 c6
      refine gh_aload_n dc_X6_share_22 rfl ?_
      refine gh_getR (k := 0) (t := 0) dc_X6_share_23 fl_RX6_25 (by decide) (by decide) rfl rfl ?_
      refine gh_iload_n dc_X6_share_26 rfl ?_
      refine gh_iload_n dc_X6_share_27 rfl ?_
      refine gh_callVi (mi' := mi_X5_takings) (as := [vI a0, vI a1]) (S := []) (k := 6) (t := 0) dc_X6_share_28 ml_RX6_280 ok_X5_takings rfl rfl (by decide) (Nat.le_of_ble_eq_true rfl) (by decide) (by decide) rfl rfl (wk_X5_takings (by decide) _ _ _ _ hw) (fun r7 M8 hw => ?_)
      exact gh_iret dc_X6_share_31 hE rfl hw
    · replace hw := hw.2 c6
      refine gh_ldc (v := (-1000001 : Int32)) dc_X6_share_19 tw_281 ?_
      exact gh_iret dc_X6_share_21 hE rfl hw
theorem lk_X2_switchOffForFewest_20 {wd : gh_Wd} {x : gh_X} {Q : gh_M → Prop}   (hE : gh_E wd (gh_Qv Q) x) {K6 : Int32 → Int32 → gh_M → Prop} (hK6 : ∀ (v1 : Int32) (v2 : Int32) (m : gh_M), K6 v1 v2 m → gh_J mi_X2_switchOffForFewest 1 wd x m 6 [some (vR 24 0), some (vI v1), some (vI v2), none, none] []) : ∀ (n : Nat) (x1 : Int32) (x2 : Int32) (x3 : Int32) (x4 : Int32) (M : gh_M), wl_X2_switchOffForFewest_20 Q K6 n x1 x2 x3 x4 M → gh_J mi_X2_switchOffForFewest 1 wd x M 20 [some (vR 24 0), some (vI x1), some (vI x2), some (vI x3), some (vI x4)] [] := by
  intro n
  induction n with
  | zero => intro x1 x2 x3 x4 M hw; exact hw.elim
  | succ n ih =>
    intro x1 x2 x3 x4 M hw
    unfold wl_X2_switchOffForFewest_20 at hw
    refine gh_iload dc_X2_switchOffForFewest_20 rfl ?_
    refine gh_iload_n dc_X2_switchOffForFewest_22 rfl ?_
    refine gh_icmp_ge (tgt := 50) dc_X2_switchOffForFewest_23 rfl (fun c5 => ?_) (fun c5 => ?_)
    · replace hw := hw.1 c5
      refine gh_aload_n dc_X2_switchOffForFewest_50 rfl ?_
      refine gh_getR (k := 24) (t := 0) dc_X2_switchOffForFewest_51 fl_RX2_31 (by decide) (by decide) rfl rfl ?_
      refine gh_iload_n dc_X2_switchOffForFewest_54 rfl ?_
      refine gh_iload_n dc_X2_switchOffForFewest_55 rfl ?_
      obtain ⟨h6, hw⟩ := hw
      refine gh_iast (k := 29) (t := 0) dc_X2_switchOffForFewest_56 rfl (by decide) (by decide) h6 ?_
      obtain ⟨M7, eM7⟩ : ∃ z, z = (gh_st M 29 0 x2.toNatClampNeg x3) := ⟨_, rfl⟩
      rw [← eM7]
      replace hw := hw _ eM7
      obtain ⟨y2_8, ey2_8⟩ : ∃ z, z = (x2 + (-1 : Int32)) := ⟨_, rfl⟩
      replace hw := hw _ ey2_8
      refine gh_iinc (v := y2_8) (L' := [some (vR 24 0), some (vI x1), some (vI y2_8), some (vI x3), some (vI x4)]) dc_X2_switchOffForFewest_57 rfl ((congrArg (fun z => x2 + z) gc_m1).trans ey2_8.symm) (by decide) rfl rfl ?_
      refine gh_goto (tgt := 6) dc_X2_switchOffForFewest_60 rfl ?_
      refine gh_drop (pc' := 0) [some (vR 24 0), some (vI x1), some (vI y2_8), none, none] ⟨rfl, rfl, rfl, trivial⟩ ?_
      exact hK6 _ _ _ hw
    · replace hw := hw.2 c5
      refine gh_iload_n dc_X2_switchOffForFewest_26 rfl ?_
      refine gh_aload_n dc_X2_switchOffForFewest_27 rfl ?_
      refine gh_getR (k := 24) (t := 0) dc_X2_switchOffForFewest_28 fl_RX2_31 (by decide) (by decide) rfl rfl ?_
      refine gh_iload_n dc_X2_switchOffForFewest_31 rfl ?_
      refine gh_iconst (v := (nI 1)) dc_X2_switchOffForFewest_32 gc_1 ?_
      refine gh_iload dc_X2_switchOffForFewest_33 rfl ?_
      refine gh_ishl dc_X2_switchOffForFewest_35 ?_
      refine gh_iconst (v := (-1 : Int32)) dc_X2_switchOffForFewest_36 gc_m1 ?_
      refine gh_ixor dc_X2_switchOffForFewest_37 ?_
      refine gh_iand dc_X2_switchOffForFewest_38 ?_
      obtain ⟨h9, hw⟩ := hw
      refine gh_iald (k := 29) (t := 0) dc_X2_switchOffForFewest_39 rfl (by decide) (by decide) h9 ?_
      refine gh_min (S := []) dc_X2_switchOffForFewest_40 tw_689 tw_425 tw_11 tw_426 (by decide) (Nat.le_of_ble_eq_true rfl) ?_
      obtain ⟨y3_10, ey3_10⟩ : ∃ z, z = (if (M 29 0 (x2 &&& (((nI 1) <<< (x4 &&& 31)) ^^^ (-1 : Int32))).toNatClampNeg) < x3 then (M 29 0 (x2 &&& (((nI 1) <<< (x4 &&& 31)) ^^^ (-1 : Int32))).toNatClampNeg) else x3) := ⟨_, rfl⟩
      rw [← ey3_10]
      replace hw := hw _ ey3_10
      refine gh_istore_n (L' := [some (vR 24 0), some (vI x1), some (vI x2), some (vI y3_10), some (vI x4)]) dc_X2_switchOffForFewest_43 (by decide) rfl rfl ?_
      obtain ⟨y4_11, ey4_11⟩ : ∃ z, z = (x4 + (nI 1)) := ⟨_, rfl⟩
      replace hw := hw _ ey4_11
      refine gh_iinc (v := y4_11) (L' := [some (vR 24 0), some (vI x1), some (vI x2), some (vI y3_10), some (vI y4_11)]) dc_X2_switchOffForFewest_44 rfl ((congrArg (fun z => x4 + z) gc_1).trans ey4_11.symm) (by decide) rfl rfl ?_
      refine gh_goto (tgt := 20) dc_X2_switchOffForFewest_47 rfl ?_
      refine gh_drop (pc' := 0) [some (vR 24 0), some (vI x1), some (vI x2), some (vI y3_10), some (vI y4_11)] ⟨rfl, rfl, rfl, rfl, rfl, trivial⟩ ?_
      exact ih _ _ _ _ _ hw
theorem lk_X2_switchOffForFewest_6 {wd : gh_Wd} {x : gh_X} {Q : gh_M → Prop}   (hE : gh_E wd (gh_Qv Q) x)   : ∀ (n : Nat) (x1 : Int32) (x2 : Int32) (M : gh_M), wl_X2_switchOffForFewest_6 Q n x1 x2 M → gh_J mi_X2_switchOffForFewest 1 wd x M 6 [some (vR 24 0), some (vI x1), some (vI x2), none, none] [] := by
  intro n
  induction n with
  | zero => intro x1 x2 M hw; exact hw.elim
  | succ n ih =>
    intro x1 x2 M hw
    unfold wl_X2_switchOffForFewest_6 at hw
    refine gh_iload_n dc_X2_switchOffForFewest_6 rfl ?_
    refine gh_if_lt (tgt := 63) dc_X2_switchOffForFewest_7 rfl (fun c2 => ?_) (fun c2 => ?_)
    · replace hw := hw.1 c2
      exact gh_vret dc_X2_switchOffForFewest_63 hE rfl hw
    · replace hw := hw.2 c2
      refine gh_aload_n dc_X2_switchOffForFewest_10 rfl ?_
      refine gh_getR (k := 24) (t := 0) dc_X2_switchOffForFewest_11 fl_RX2_31 (by decide) (by decide) rfl rfl ?_
      refine gh_iload_n dc_X2_switchOffForFewest_14 rfl ?_
      obtain ⟨h3, hw⟩ := hw
      refine gh_iald (k := 29) (t := 0) dc_X2_switchOffForFewest_15 rfl (by decide) (by decide) h3 ?_
      obtain ⟨y3_4, ey3_4⟩ : ∃ z, z = (M 29 0 x2.toNatClampNeg) := ⟨_, rfl⟩
      rw [← ey3_4]
      replace hw := hw _ ey3_4
      refine gh_istore_n (L' := [some (vR 24 0), some (vI x1), some (vI x2), some (vI y3_4), none]) dc_X2_switchOffForFewest_16 (by decide) rfl rfl ?_
      refine gh_iconst (v := (nI 0)) dc_X2_switchOffForFewest_17 gc_0 ?_
      refine gh_istore (L' := [some (vR 24 0), some (vI x1), some (vI x2), some (vI y3_4), some (vI (nI 0))]) dc_X2_switchOffForFewest_18 (by decide) rfl rfl ?_
      refine gh_drop (pc' := 0) [some (vR 24 0), some (vI x1), some (vI x2), some (vI y3_4), some (vI (nI 0))] ⟨rfl, rfl, rfl, rfl, rfl, trivial⟩ ?_
      obtain ⟨k, hw⟩ := hw
      exact lk_X2_switchOffForFewest_20  hE ih k _ _ _ _ _ hw
theorem wk_X2_switchOffForFewest   (Q : gh_M → Prop) (a0 : Int32) (M : gh_M) (hw : wp_X2_switchOffForFewest  a0 M Q) : gh_Calls 1 mi_X2_switchOffForFewest [vR 24 0, vI a0] M (gh_Qv Q) := by
  refine gh_of (by decide) rfl 3 rfl (L0 := [some (vR 24 0), some (vI a0), none, none, none]) rfl (fun wd x hE => ?_)
  unfold wp_X2_switchOffForFewest at hw
  refine gh_iconst (v := (nI 1)) dc_X2_switchOffForFewest_0 gc_1 ?_
  refine gh_iload_n dc_X2_switchOffForFewest_1 rfl ?_
  refine gh_ishl dc_X2_switchOffForFewest_2 ?_
  refine gh_iconst (v := (nI 1)) dc_X2_switchOffForFewest_3 gc_1 ?_
  refine gh_isub dc_X2_switchOffForFewest_4 ?_
  obtain ⟨y2_1, ey2_1⟩ : ∃ z, z = (((nI 1) <<< (a0 &&& 31)) - (nI 1)) := ⟨_, rfl⟩
  rw [← ey2_1]
  replace hw := hw _ ey2_1
  refine gh_istore_n (L' := [some (vR 24 0), some (vI a0), some (vI y2_1), none, none]) dc_X2_switchOffForFewest_5 (by decide) rfl rfl ?_
  refine gh_drop (pc' := 0) [some (vR 24 0), some (vI a0), some (vI y2_1), none, none] ⟨rfl, rfl, rfl, trivial⟩ ?_
  obtain ⟨k, hw⟩ := hw
  exact lk_X2_switchOffForFewest_6  hE  k _ _ _ hw
theorem lk_X2_switchOnForMost_19 {wd : gh_Wd} {x : gh_X} {Q : gh_M → Prop}   (hE : gh_E wd (gh_Qv Q) x) {K2 : Int32 → Int32 → gh_M → Prop} (hK2 : ∀ (v1 : Int32) (v2 : Int32) (m : gh_M), K2 v1 v2 m → gh_J mi_X2_switchOnForMost 1 wd x m 2 [some (vR 24 0), some (vI v1), some (vI v2), none, none] []) : ∀ (n : Nat) (x1 : Int32) (x2 : Int32) (x3 : Int32) (x4 : Int32) (M : gh_M), wl_X2_switchOnForMost_19 Q K2 n x1 x2 x3 x4 M → gh_J mi_X2_switchOnForMost 1 wd x M 19 [some (vR 24 0), some (vI x1), some (vI x2), some (vI x3), some (vI x4)] [] := by
  intro n
  induction n with
  | zero => intro x1 x2 x3 x4 M hw; exact hw.elim
  | succ n ih =>
    intro x1 x2 x3 x4 M hw
    unfold wl_X2_switchOnForMost_19 at hw
    refine gh_iload dc_X2_switchOnForMost_19 rfl ?_
    refine gh_iload_n dc_X2_switchOnForMost_21 rfl ?_
    refine gh_icmp_ge (tgt := 47) dc_X2_switchOnForMost_22 rfl (fun c4 => ?_) (fun c4 => ?_)
    · replace hw := hw.1 c4
      refine gh_aload_n dc_X2_switchOnForMost_47 rfl ?_
      refine gh_getR (k := 24) (t := 0) dc_X2_switchOnForMost_48 fl_RX2_31 (by decide) (by decide) rfl rfl ?_
      refine gh_iload_n dc_X2_switchOnForMost_51 rfl ?_
      refine gh_iload_n dc_X2_switchOnForMost_52 rfl ?_
      obtain ⟨h5, hw⟩ := hw
      refine gh_iast (k := 29) (t := 0) dc_X2_switchOnForMost_53 rfl (by decide) (by decide) h5 ?_
      obtain ⟨M6, eM6⟩ : ∃ z, z = (gh_st M 29 0 x2.toNatClampNeg x3) := ⟨_, rfl⟩
      rw [← eM6]
      replace hw := hw _ eM6
      obtain ⟨y2_7, ey2_7⟩ : ∃ z, z = (x2 + (nI 1)) := ⟨_, rfl⟩
      replace hw := hw _ ey2_7
      refine gh_iinc (v := y2_7) (L' := [some (vR 24 0), some (vI x1), some (vI y2_7), some (vI x3), some (vI x4)]) dc_X2_switchOnForMost_54 rfl ((congrArg (fun z => x2 + z) gc_1).trans ey2_7.symm) (by decide) rfl rfl ?_
      refine gh_goto (tgt := 2) dc_X2_switchOnForMost_57 rfl ?_
      refine gh_drop (pc' := 0) [some (vR 24 0), some (vI x1), some (vI y2_7), none, none] ⟨rfl, rfl, rfl, trivial⟩ ?_
      exact hK2 _ _ _ hw
    · replace hw := hw.2 c4
      refine gh_iload_n dc_X2_switchOnForMost_25 rfl ?_
      refine gh_aload_n dc_X2_switchOnForMost_26 rfl ?_
      refine gh_getR (k := 24) (t := 0) dc_X2_switchOnForMost_27 fl_RX2_31 (by decide) (by decide) rfl rfl ?_
      refine gh_iload_n dc_X2_switchOnForMost_30 rfl ?_
      refine gh_iconst (v := (nI 1)) dc_X2_switchOnForMost_31 gc_1 ?_
      refine gh_iload dc_X2_switchOnForMost_32 rfl ?_
      refine gh_ishl dc_X2_switchOnForMost_34 ?_
      refine gh_ior dc_X2_switchOnForMost_35 ?_
      obtain ⟨h8, hw⟩ := hw
      refine gh_iald (k := 29) (t := 0) dc_X2_switchOnForMost_36 rfl (by decide) (by decide) h8 ?_
      refine gh_max (S := []) dc_X2_switchOnForMost_37 tw_682 tw_683 tw_11 tw_684 (by decide) (Nat.le_of_ble_eq_true rfl) ?_
      obtain ⟨y3_9, ey3_9⟩ : ∃ z, z = (if x3 < (M 29 0 (x2 ||| ((nI 1) <<< (x4 &&& 31))).toNatClampNeg) then (M 29 0 (x2 ||| ((nI 1) <<< (x4 &&& 31))).toNatClampNeg) else x3) := ⟨_, rfl⟩
      rw [← ey3_9]
      replace hw := hw _ ey3_9
      refine gh_istore_n (L' := [some (vR 24 0), some (vI x1), some (vI x2), some (vI y3_9), some (vI x4)]) dc_X2_switchOnForMost_40 (by decide) rfl rfl ?_
      obtain ⟨y4_10, ey4_10⟩ : ∃ z, z = (x4 + (nI 1)) := ⟨_, rfl⟩
      replace hw := hw _ ey4_10
      refine gh_iinc (v := y4_10) (L' := [some (vR 24 0), some (vI x1), some (vI x2), some (vI y3_9), some (vI y4_10)]) dc_X2_switchOnForMost_41 rfl ((congrArg (fun z => x4 + z) gc_1).trans ey4_10.symm) (by decide) rfl rfl ?_
      refine gh_goto (tgt := 19) dc_X2_switchOnForMost_44 rfl ?_
      refine gh_drop (pc' := 0) [some (vR 24 0), some (vI x1), some (vI x2), some (vI y3_9), some (vI y4_10)] ⟨rfl, rfl, rfl, rfl, rfl, trivial⟩ ?_
      exact ih _ _ _ _ _ hw
theorem lk_X2_switchOnForMost_2 {wd : gh_Wd} {x : gh_X} {Q : gh_M → Prop}   (hE : gh_E wd (gh_Qv Q) x)   : ∀ (n : Nat) (x1 : Int32) (x2 : Int32) (M : gh_M), wl_X2_switchOnForMost_2 Q n x1 x2 M → gh_J mi_X2_switchOnForMost 1 wd x M 2 [some (vR 24 0), some (vI x1), some (vI x2), none, none] [] := by
  intro n
  induction n with
  | zero => intro x1 x2 M hw; exact hw.elim
  | succ n ih =>
    intro x1 x2 M hw
    unfold wl_X2_switchOnForMost_2 at hw
    refine gh_iload_n dc_X2_switchOnForMost_2 rfl ?_
    refine gh_iconst (v := (nI 1)) dc_X2_switchOnForMost_3 gc_1 ?_
    refine gh_iload_n dc_X2_switchOnForMost_4 rfl ?_
    refine gh_ishl dc_X2_switchOnForMost_5 ?_
    refine gh_icmp_ge (tgt := 60) dc_X2_switchOnForMost_6 rfl (fun c1 => ?_) (fun c1 => ?_)
    · replace hw := hw.1 c1
      exact gh_vret dc_X2_switchOnForMost_60 hE rfl hw
    · replace hw := hw.2 c1
      refine gh_aload_n dc_X2_switchOnForMost_9 rfl ?_
      refine gh_getR (k := 24) (t := 0) dc_X2_switchOnForMost_10 fl_RX2_31 (by decide) (by decide) rfl rfl ?_
      refine gh_iload_n dc_X2_switchOnForMost_13 rfl ?_
      obtain ⟨h2, hw⟩ := hw
      refine gh_iald (k := 29) (t := 0) dc_X2_switchOnForMost_14 rfl (by decide) (by decide) h2 ?_
      obtain ⟨y3_3, ey3_3⟩ : ∃ z, z = (M 29 0 x2.toNatClampNeg) := ⟨_, rfl⟩
      rw [← ey3_3]
      replace hw := hw _ ey3_3
      refine gh_istore_n (L' := [some (vR 24 0), some (vI x1), some (vI x2), some (vI y3_3), none]) dc_X2_switchOnForMost_15 (by decide) rfl rfl ?_
      refine gh_iconst (v := (nI 0)) dc_X2_switchOnForMost_16 gc_0 ?_
      refine gh_istore (L' := [some (vR 24 0), some (vI x1), some (vI x2), some (vI y3_3), some (vI (nI 0))]) dc_X2_switchOnForMost_17 (by decide) rfl rfl ?_
      refine gh_drop (pc' := 0) [some (vR 24 0), some (vI x1), some (vI x2), some (vI y3_3), some (vI (nI 0))] ⟨rfl, rfl, rfl, rfl, rfl, trivial⟩ ?_
      obtain ⟨k, hw⟩ := hw
      exact lk_X2_switchOnForMost_19  hE ih k _ _ _ _ _ hw
theorem wk_X2_switchOnForMost   (Q : gh_M → Prop) (a0 : Int32) (M : gh_M) (hw : wp_X2_switchOnForMost  a0 M Q) : gh_Calls 1 mi_X2_switchOnForMost [vR 24 0, vI a0] M (gh_Qv Q) := by
  refine gh_of (by decide) rfl 3 rfl (L0 := [some (vR 24 0), some (vI a0), none, none, none]) rfl (fun wd x hE => ?_)
  unfold wp_X2_switchOnForMost at hw
  refine gh_iconst (v := (nI 0)) dc_X2_switchOnForMost_0 gc_0 ?_
  refine gh_istore_n (L' := [some (vR 24 0), some (vI a0), some (vI (nI 0)), none, none]) dc_X2_switchOnForMost_1 (by decide) rfl rfl ?_
  refine gh_drop (pc' := 0) [some (vR 24 0), some (vI a0), some (vI (nI 0)), none, none] ⟨rfl, rfl, rfl, trivial⟩ ?_
  obtain ⟨k, hw⟩ := hw
  exact lk_X2_switchOnForMost_2  hE  k _ _ _ hw
theorem lk_X2_switchingByTurns_68 {wd : gh_Wd} {x : gh_X} {Q : Int32 → gh_M → Prop} {t0 : Nat} (ht0 : t0 < 29) (hE : gh_E wd (gh_Qi Q) x)   : ∀ (n : Nat) (x5 : Int32) (M : gh_M), wl_X2_switchingByTurns_68 t0 Q n x5 M → gh_J mi_X2_switchingByTurns 6 wd x M 68 [some (vR 24 0), some (vR 6 t0), none, none, none, some (vI x5)] [] := by
  intro n
  induction n with
  | zero => intro x5 M hw; exact hw.elim
  | succ n ih =>
    intro x5 M hw
    unfold wl_X2_switchingByTurns_68 at hw
    refine gh_iload dc_X2_switchingByTurns_68 rfl ?_
    refine gh_if_lt (tgt := 105) dc_X2_switchingByTurns_70 rfl (fun c4 => ?_) (fun c4 => ?_)
    · replace hw := hw.1 c4
      refine gh_aload_n dc_X2_switchingByTurns_105 rfl ?_
      refine gh_getR (k := 24) (t := 0) dc_X2_switchingByTurns_106 fl_RX2_31 (by decide) (by decide) rfl rfl ?_
      refine gh_aload_n dc_X2_switchingByTurns_109 rfl ?_
      refine gh_callVi (mi' := mi_X5_bitsOn) (as := []) (S := [vR 29 0]) (k := 6) (t := t0) dc_X2_switchingByTurns_110 ml_RX2_132 ok_X5_bitsOn rfl rfl (by decide) (Nat.le_of_ble_eq_true rfl) (by decide) ht0 rfl rfl (wk_X5_bitsOn ht0 _ _ hw) (fun r5 M6 hw => ?_)
      obtain ⟨h7, hw⟩ := hw
      refine gh_iald (k := 29) (t := 0) dc_X2_switchingByTurns_113 rfl (by decide) (by decide) h7 ?_
      exact gh_iret dc_X2_switchingByTurns_114 hE rfl hw
    · replace hw := hw.2 c4
      refine gh_iload dc_X2_switchingByTurns_73 rfl ?_
      refine gh_iconst (v := (nI 2)) dc_X2_switchingByTurns_75 gc_2 ?_
      obtain ⟨h8, hw⟩ := hw
      refine gh_irem dc_X2_switchingByTurns_76 h8 ?_
      refine gh_if_ne (tgt := 91) dc_X2_switchingByTurns_77 rfl (fun c9 => ?_) (fun c9 => ?_)
      · replace hw := hw.1 c9
        refine gh_aload_n dc_X2_switchingByTurns_91 rfl ?_
        refine gh_aload_n dc_X2_switchingByTurns_92 rfl ?_
        refine gh_getI (k := 6) (t := t0) dc_X2_switchingByTurns_93 fl_RX2_113 (by decide) ht0 rfl rfl ?_
        refine gh_callVv (mi' := mi_X2_switchOffForFewest) (as := [vI (M 6 t0 1)]) (S := []) (k := 24) (t := 0) dc_X2_switchingByTurns_96 ml_RX2_129 ok_X2_switchOffForFewest rfl rfl (by decide) (Nat.le_of_ble_eq_true rfl) (by decide) (by decide) rfl rfl (wk_X2_switchOffForFewest _ _ _ hw) (fun M11 hw => ?_)
        obtain ⟨y5_12, ey5_12⟩ : ∃ z, z = (x5 + (-1 : Int32)) := ⟨_, rfl⟩
        replace hw := hw _ ey5_12
        refine gh_iinc (v := y5_12) (L' := [some (vR 24 0), some (vR 6 t0), none, none, none, some (vI y5_12)]) dc_X2_switchingByTurns_99 rfl ((congrArg (fun z => x5 + z) gc_m1).trans ey5_12.symm) (by decide) rfl rfl ?_
        refine gh_goto (tgt := 68) dc_X2_switchingByTurns_102 rfl ?_
        refine gh_drop (pc' := 0) [some (vR 24 0), some (vR 6 t0), none, none, none, some (vI y5_12)] ⟨rfl, rfl, rfl, trivial⟩ ?_
        exact ih _ _ hw
      · replace hw := hw.2 c9
        refine gh_aload_n dc_X2_switchingByTurns_80 rfl ?_
        refine gh_aload_n dc_X2_switchingByTurns_81 rfl ?_
        refine gh_getI (k := 6) (t := t0) dc_X2_switchingByTurns_82 fl_RX2_113 (by decide) ht0 rfl rfl ?_
        refine gh_callVv (mi' := mi_X2_switchOnForMost) (as := [vI (M 6 t0 1)]) (S := []) (k := 24) (t := 0) dc_X2_switchingByTurns_85 ml_RX2_126 ok_X2_switchOnForMost rfl rfl (by decide) (Nat.le_of_ble_eq_true rfl) (by decide) (by decide) rfl rfl (wk_X2_switchOnForMost _ _ _ hw) (fun M14 hw => ?_)
        refine gh_goto (tgt := 99) dc_X2_switchingByTurns_88 rfl ?_
        obtain ⟨y5_15, ey5_15⟩ : ∃ z, z = (x5 + (-1 : Int32)) := ⟨_, rfl⟩
        replace hw := hw _ ey5_15
        refine gh_iinc (v := y5_15) (L' := [some (vR 24 0), some (vR 6 t0), none, none, none, some (vI y5_15)]) dc_X2_switchingByTurns_99 rfl ((congrArg (fun z => x5 + z) gc_m1).trans ey5_15.symm) (by decide) rfl rfl ?_
        refine gh_goto (tgt := 68) dc_X2_switchingByTurns_102 rfl ?_
        refine gh_drop (pc' := 0) [some (vR 24 0), some (vR 6 t0), none, none, none, some (vI y5_15)] ⟨rfl, rfl, rfl, trivial⟩ ?_
        exact ih _ _ hw
theorem lk_X2_switchingByTurns_11 {wd : gh_Wd} {x : gh_X} {Q : Int32 → gh_M → Prop} {t0 : Nat} (ht0 : t0 < 29) (hE : gh_E wd (gh_Qi Q) x)   : ∀ (n : Nat) (x2 : Int32) (x3 : Int32) (x4 : Int32) (x5 : Int32) (M : gh_M), wl_X2_switchingByTurns_11 t0 Q n x2 x3 x4 x5 M → gh_J mi_X2_switchingByTurns 6 wd x M 11 [some (vR 24 0), some (vR 6 t0), some (vI x2), some (vI x3), some (vI x4), some (vI x5)] [] := by
  intro n
  induction n with
  | zero => intro x2 x3 x4 x5 M hw; exact hw.elim
  | succ n ih =>
    intro x2 x3 x4 x5 M hw
    unfold wl_X2_switchingByTurns_11 at hw
    refine gh_iload dc_X2_switchingByTurns_11 rfl ?_
    refine gh_iload dc_X2_switchingByTurns_13 rfl ?_
    refine gh_icmp_ge (tgt := 63) dc_X2_switchingByTurns_15 rfl (fun c2 => ?_) (fun c2 => ?_)
    · replace hw := hw.1 c2
      refine gh_iload_n dc_X2_switchingByTurns_63 rfl ?_
      refine gh_iconst (v := (nI 1)) dc_X2_switchingByTurns_64 gc_1 ?_
      refine gh_isub dc_X2_switchingByTurns_65 ?_
      obtain ⟨y5_3, ey5_3⟩ : ∃ z, z = (x2 - (nI 1)) := ⟨_, rfl⟩
      rw [← ey5_3]
      replace hw := hw _ ey5_3
      refine gh_istore (L' := [some (vR 24 0), some (vR 6 t0), some (vI x2), some (vI x3), some (vI x4), some (vI y5_3)]) dc_X2_switchingByTurns_66 (by decide) rfl rfl ?_
      refine gh_drop (pc' := 0) [some (vR 24 0), some (vR 6 t0), none, none, none, some (vI y5_3)] ⟨rfl, rfl, rfl, trivial⟩ ?_
      obtain ⟨k, hw⟩ := hw
      exact lk_X2_switchingByTurns_68 ht0 hE  k _ _ hw
    · replace hw := hw.2 c2
      refine gh_aload_n dc_X2_switchingByTurns_18 rfl ?_
      refine gh_getR (k := 24) (t := 0) dc_X2_switchingByTurns_19 fl_RX2_12 (by decide) (by decide) rfl rfl ?_
      refine gh_aload_n dc_X2_switchingByTurns_22 rfl ?_
      refine gh_callVv (mi' := mi_X5_copyFrom) (as := [vR 6 t0]) (S := []) (k := 6) (t := 28) dc_X2_switchingByTurns_23 ml_RX2_38 ok_X5_copyFrom rfl rfl (by decide) (Nat.le_of_ble_eq_true rfl) (by decide) (by decide) rfl rfl (wk_X5_copyFrom (by decide) ht0 _ _ hw) (fun M17 hw => ?_)
      refine gh_aload_n dc_X2_switchingByTurns_26 rfl ?_
      refine gh_getR (k := 24) (t := 0) dc_X2_switchingByTurns_27 fl_RX2_12 (by decide) (by decide) rfl rfl ?_
      refine gh_iload dc_X2_switchingByTurns_30 rfl ?_
      refine gh_callVv (mi' := mi_X5_switchTo) (as := [vI x5]) (S := []) (k := 6) (t := 28) dc_X2_switchingByTurns_32 ml_RX2_120 ok_X5_switchTo rfl rfl (by decide) (Nat.le_of_ble_eq_true rfl) (by decide) (by decide) rfl rfl (wk_X5_switchTo (by decide) _ _ _ hw) (fun M19 hw => ?_)
      refine gh_aload_n dc_X2_switchingByTurns_35 rfl ?_
      refine gh_getR (k := 24) (t := 0) dc_X2_switchingByTurns_36 fl_RX2_12 (by decide) (by decide) rfl rfl ?_
      refine gh_iload_n dc_X2_switchingByTurns_39 rfl ?_
      refine gh_callVv (mi' := mi_X5_tickOnFor) (as := [vI x3]) (S := []) (k := 6) (t := 28) dc_X2_switchingByTurns_40 ml_RX2_42 ok_X5_tickOnFor rfl rfl (by decide) (Nat.le_of_ble_eq_true rfl) (by decide) (by decide) rfl rfl (wk_X5_tickOnFor (by decide) _ _ _ hw) (fun M21 hw => ?_)
      refine gh_aload_n dc_X2_switchingByTurns_43 rfl ?_
      refine gh_getR (k := 24) (t := 0) dc_X2_switchingByTurns_44 fl_RX2_31 (by decide) (by decide) rfl rfl ?_
      refine gh_iload dc_X2_switchingByTurns_47 rfl ?_
      refine gh_aload_n dc_X2_switchingByTurns_49 rfl ?_
      refine gh_getR (k := 24) (t := 0) dc_X2_switchingByTurns_50 fl_RX2_12 (by decide) (by decide) rfl rfl ?_
      refine gh_callVi (mi' := mi_X5_allScreams) (as := []) (S := [vI x5, vR 29 0]) (k := 6) (t := 28) dc_X2_switchingByTurns_53 ml_RX2_80 ok_X5_allScreams rfl rfl (by decide) (Nat.le_of_ble_eq_true rfl) (by decide) (by decide) rfl rfl (wk_X5_allScreams (by decide) _ _ hw) (fun r22 M23 hw => ?_)
      obtain ⟨h24, hw⟩ := hw
      refine gh_iast (k := 29) (t := 0) dc_X2_switchingByTurns_56 rfl (by decide) (by decide) h24 ?_
      obtain ⟨M25, eM25⟩ : ∃ z, z = (gh_st M23 29 0 x5.toNatClampNeg r22) := ⟨_, rfl⟩
      rw [← eM25]
      replace hw := hw _ eM25
      obtain ⟨y5_26, ey5_26⟩ : ∃ z, z = (x5 + (nI 1)) := ⟨_, rfl⟩
      replace hw := hw _ ey5_26
      refine gh_iinc (v := y5_26) (L' := [some (vR 24 0), some (vR 6 t0), some (vI x2), some (vI x3), some (vI x4), some (vI y5_26)]) dc_X2_switchingByTurns_57 rfl ((congrArg (fun z => x5 + z) gc_1).trans ey5_26.symm) (by decide) rfl rfl ?_
      refine gh_goto (tgt := 11) dc_X2_switchingByTurns_60 rfl ?_
      refine gh_drop (pc' := 0) [some (vR 24 0), some (vR 6 t0), some (vI x2), some (vI x3), some (vI x4), some (vI y5_26)] ⟨rfl, rfl, rfl, rfl, rfl, rfl, trivial⟩ ?_
      exact ih _ _ _ _ _ hw
theorem wk_X2_switchingByTurns {t0 : Nat} (ht0 : t0 < 29) (Q : Int32 → gh_M → Prop) (a0 : Int32) (a1 : Int32) (M : gh_M) (hw : wp_X2_switchingByTurns t0 a0 a1 M Q) : gh_Calls 6 mi_X2_switchingByTurns [vR 24 0, vR 6 t0, vI a0, vI a1] M (gh_Qi Q) := by
  refine gh_of (by decide) rfl 2 rfl (L0 := [some (vR 24 0), some (vR 6 t0), some (vI a0), some (vI a1), none, none]) rfl (fun wd x hE => ?_)
  unfold wp_X2_switchingByTurns at hw
  refine gh_iconst (v := (nI 1)) dc_X2_switchingByTurns_0 gc_1 ?_
  refine gh_aload_n dc_X2_switchingByTurns_1 rfl ?_
  refine gh_getI (k := 6) (t := t0) dc_X2_switchingByTurns_2 fl_RX2_113 (by decide) ht0 rfl rfl ?_
  refine gh_ishl dc_X2_switchingByTurns_5 ?_
  obtain ⟨y4_1, ey4_1⟩ : ∃ z, z = ((nI 1) <<< ((M 6 t0 1) &&& 31)) := ⟨_, rfl⟩
  rw [← ey4_1]
  replace hw := hw _ ey4_1
  refine gh_istore (L' := [some (vR 24 0), some (vR 6 t0), some (vI a0), some (vI a1), some (vI y4_1), none]) dc_X2_switchingByTurns_6 (by decide) rfl rfl ?_
  refine gh_iconst (v := (nI 0)) dc_X2_switchingByTurns_8 gc_0 ?_
  refine gh_istore (L' := [some (vR 24 0), some (vR 6 t0), some (vI a0), some (vI a1), some (vI y4_1), some (vI (nI 0))]) dc_X2_switchingByTurns_9 (by decide) rfl rfl ?_
  refine gh_drop (pc' := 0) [some (vR 24 0), some (vR 6 t0), some (vI a0), some (vI a1), some (vI y4_1), some (vI (nI 0))] ⟨rfl, rfl, rfl, rfl, rfl, rfl, trivial⟩ ?_
  obtain ⟨k, hw⟩ := hw
  exact lk_X2_switchingByTurns_11 ht0 hE  k _ _ _ _ _ hw
theorem wk_X6_byTurns   (Q : Int32 → gh_M → Prop) (a0 : Int32) (a1 : Int32) (M : gh_M) (hw : wp_X6_byTurns  a0 a1 M Q) : gh_Calls 7 mi_X6_byTurns [vR 0 0, vI a0, vI a1] M (gh_Qi Q) := by
  refine gh_of (by decide) rfl 0 rfl (L0 := [some (vR 0 0), some (vI a0), some (vI a1)]) rfl (fun wd x hE => ?_)
  unfold wp_X6_byTurns at hw
  refine gh_aload_n dc_X6_byTurns_0 rfl ?_
  refine gh_callVi (mi' := mi_X6_hasTrain) (as := []) (S := []) (k := 0) (t := 0) dc_X6_byTurns_1 ml_RX6_142 ok_X6_hasTrain rfl rfl (by decide) (Nat.le_of_ble_eq_true rfl) (by decide) (by decide) rfl rfl (wk_X6_hasTrain _ _ hw) (fun r1 M2 hw => ?_)
  refine gh_if_ne (tgt := 10) dc_X6_byTurns_4 rfl (fun c3 => ?_) (fun c3 => ?_)
  · replace hw := hw.1 c3
    refine gh_iload_n dc_X6_byTurns_10 rfl ?_
    refine gh_iconst (v := (nI 0)) dc_X6_byTurns_11 gc_0 ?_
    refine gh_iconst (v := (nI 4)) dc_X6_byTurns_12 gc_4 ?_
    refine gh_callSi (mi' := mi_X6_within) (as := [vI a0, vI (nI 0), vI (nI 4)]) (S := []) dc_X6_byTurns_13 ml_RX6_62 ok_X6_within rfl rfl (by decide) (Nat.le_of_ble_eq_true rfl) (wk_X6_within _ _ _ _ _ hw) (fun r4 M5 hw => ?_)
    refine gh_if_eq (tgt := 29) dc_X6_byTurns_16 rfl (fun c6 => ?_) (fun c6 => ?_)
    · replace hw := hw.1 c6
      refine gh_ldc (v := (-1000001 : Int32)) dc_X6_byTurns_29 tw_281 ?_
      exact gh_iret dc_X6_byTurns_31 hE rfl hw
    · replace hw := hw.2 c6
      refine gh_iload_n dc_X6_byTurns_19 rfl ?_
      refine gh_iconst (v := (nI 1)) dc_X6_byTurns_20 gc_1 ?_
      refine gh_bipush (v := (nI 20)) dc_X6_byTurns_21 gb_20 ?_
      refine gh_callSi (mi' := mi_X6_within) (as := [vI a1, vI (nI 1), vI (nI 20)]) (S := []) dc_X6_byTurns_23 ml_RX6_62 ok_X6_within rfl rfl (by decide) (Nat.le_of_ble_eq_true rfl) (wk_X6_within _ _ _ _ _ hw) (fun r7 M8 hw => ?_)
      refine gh_if_ne (tgt := 32) dc_X6_byTurns_26 rfl (fun c9 => ?_) (fun c9 => ?_)
      · replace hw := hw.1 c9
        refine gh_aload_n dc_X6_byTurns_32 rfl ?_
        refine gh_getR (k := 0) (t := 0) dc_X6_byTurns_33 fl_RX6_46 (by decide) (by decide) rfl rfl ?_
        refine gh_aload_n dc_X6_byTurns_36 rfl ?_
        refine gh_getR (k := 0) (t := 0) dc_X6_byTurns_37 fl_RX6_25 (by decide) (by decide) rfl rfl ?_
        refine gh_iload_n dc_X6_byTurns_40 rfl ?_
        refine gh_iload_n dc_X6_byTurns_41 rfl ?_
        refine gh_callVi (mi' := mi_X2_switchingByTurns) (as := [vR 6 0, vI a0, vI a1]) (S := []) (k := 24) (t := 0) dc_X6_byTurns_42 ml_RX6_283 ok_X2_switchingByTurns rfl rfl (by decide) (Nat.le_of_ble_eq_true rfl) (by decide) (by decide) rfl rfl (wk_X2_switchingByTurns (by decide) _ _ _ _ hw) (fun r10 M11 hw => ?_)
        exact gh_iret dc_X6_byTurns_45 hE rfl hw
      · replace hw := hw.2 c9
        refine gh_ldc (v := (-1000001 : Int32)) dc_X6_byTurns_29 tw_281 ?_
        exact gh_iret dc_X6_byTurns_31 hE rfl hw
  · replace hw := hw.2 c3
    refine gh_ldc (v := (-1000002 : Int32)) dc_X6_byTurns_7 tw_402 ?_
    exact gh_iret dc_X6_byTurns_9 hE rfl hw
theorem wk_X6_findingIn {t0 : Nat} (ht0 : t0 < 8) (Q : Int32 → gh_M → Prop) (a0 : Int32) (a1 : Int32) (M : gh_M) (hw : wp_X6_findingIn t0 a0 a1 M Q) : gh_Calls 2 mi_X6_findingIn [vR 2 t0, vI a0, vI a1] M (gh_Qi Q) := by
  refine gh_of (by decide) rfl 0 rfl (L0 := [some (vR 2 t0), some (vI a0), some (vI a1)]) rfl (fun wd x hE => ?_)
  unfold wp_X6_findingIn at hw
  refine gh_aload_n dc_X6_findingIn_0 rfl ?_
  refine gh_getI (k := 2) (t := t0) dc_X6_findingIn_1 fl_RX6_78 (by decide) ht0 rfl rfl ?_
  refine gh_if_ne (tgt := 9) dc_X6_findingIn_4 rfl (fun c1 => ?_) (fun c1 => ?_)
  · replace hw := hw.1 c1
    refine gh_aload_n dc_X6_findingIn_9 rfl ?_
    refine gh_iload_n dc_X6_findingIn_10 rfl ?_
    refine gh_iload_n dc_X6_findingIn_11 rfl ?_
    refine gh_callVi (mi' := mi_X3_holds) (as := [vI a0, vI a1]) (S := []) (k := 2) (t := t0) dc_X6_findingIn_12 ml_RX6_96 ok_X3_holds rfl rfl (by decide) (Nat.le_of_ble_eq_true rfl) (by decide) ht0 rfl rfl (wk_X3_holds ht0 _ _ _ _ hw) (fun r2 M3 hw => ?_)
    refine gh_if_eq (tgt := 22) dc_X6_findingIn_15 rfl (fun c4 => ?_) (fun c4 => ?_)
    · replace hw := hw.1 c4
      refine gh_iconst (v := (nI 2)) dc_X6_findingIn_22 gc_2 ?_
      exact gh_iret dc_X6_findingIn_23 hE rfl hw
    · replace hw := hw.2 c4
      refine gh_iconst (v := (nI 0)) dc_X6_findingIn_18 gc_0 ?_
      refine gh_goto (tgt := 23) dc_X6_findingIn_19 rfl ?_
      exact gh_iret dc_X6_findingIn_23 hE rfl hw
  · replace hw := hw.2 c1
    refine gh_iconst (v := (nI 1)) dc_X6_findingIn_7 gc_1 ?_
    exact gh_iret dc_X6_findingIn_8 hE rfl hw
theorem wk_X2_hear {t0 : Nat} (ht0 : t0 < 8) (Q : gh_M → Prop) (a0 : Int32) (a1 : Int32) (M : gh_M) (hw : wp_X2_hear t0 a0 a1 M Q) : gh_Calls 2 mi_X2_hear [vR 24 0, vR 2 t0, vI a0, vI a1] M (gh_Qv Q) := by
  refine gh_of (by decide) rfl 0 rfl (L0 := [some (vR 24 0), some (vR 2 t0), some (vI a0), some (vI a1)]) rfl (fun wd x hE => ?_)
  unfold wp_X2_hear at hw
  refine gh_aload_n dc_X2_hear_0 rfl ?_
  refine gh_aload_n dc_X2_hear_1 rfl ?_
  refine gh_iload_n dc_X2_hear_2 rfl ?_
  refine gh_iload_n dc_X2_hear_3 rfl ?_
  refine gh_callVi (mi' := mi_X3_holds) (as := [vI a0, vI a1]) (S := [vR 24 0]) (k := 2) (t := t0) dc_X2_hear_4 ml_RX2_144 ok_X3_holds rfl rfl (by decide) (Nat.le_of_ble_eq_true rfl) (by decide) ht0 rfl rfl (wk_X3_holds ht0 _ _ _ _ hw) (fun r1 M2 hw => ?_)
  refine gh_if_eq (tgt := 19) dc_X2_hear_7 rfl (fun c3 => ?_) (fun c3 => ?_)
  · replace hw := hw.1 c3
    refine gh_iconst (v := (nI 0)) dc_X2_hear_19 gc_0 ?_
    refine gh_put (k := 24) (t := 0) dc_X2_hear_20 fl_RX2_150 (by decide) (by decide) rfl rfl (fun _ h => by cases h; rfl) rfl rfl ?_
    obtain ⟨M4, eM4⟩ : ∃ z, z = (gh_st M2 24 0 2 (nI 0)) := ⟨_, rfl⟩
    rw [← eM4]
    replace hw := hw _ eM4
    refine gh_aload_n dc_X2_hear_23 rfl ?_
    refine gh_getI (k := 24) (t := 0) dc_X2_hear_24 fl_RX2_150 (by decide) (by decide) rfl rfl ?_
    refine gh_if_le (tgt := 47) dc_X2_hear_27 rfl (fun c5 => ?_) (fun c5 => ?_)
    · replace hw := hw.1 c5
      exact gh_vret dc_X2_hear_47 hE rfl hw
    · replace hw := hw.2 c5
      refine gh_aload_n dc_X2_hear_30 rfl ?_
      refine gh_getR (k := 2) (t := t0) dc_X2_hear_31 fl_RX2_153 (by decide) ht0 rfl rfl ?_
      refine gh_iload_n dc_X2_hear_34 rfl ?_
      refine gh_aload_n dc_X2_hear_35 rfl ?_
      refine gh_getR (k := 24) (t := 0) dc_X2_hear_36 fl_RX2_18 (by decide) (by decide) rfl rfl ?_
      refine gh_iconst (v := (nI 0)) dc_X2_hear_39 gc_0 ?_
      refine gh_aload_n dc_X2_hear_40 rfl ?_
      refine gh_getI (k := 24) (t := 0) dc_X2_hear_41 fl_RX2_150 (by decide) (by decide) rfl rfl ?_
      obtain ⟨h6, hw⟩ := hw
      refine gh_copy (z := 0) (ks := 3) (ts := t0) (kd := 25) (td := 0) (S := []) dc_X2_hear_44 tw_594 tw_316 tw_315 tw_10 (by decide) (Nat.le_of_ble_eq_true rfl) (by decide) rfl rfl (by decide) ht0 (by decide) (by decide) h6.1 h6.2.1 h6.2.2.1 h6.2.2.2.1 h6.2.2.2.2 (fun h => absurd h (by decide)) ?_
      obtain ⟨M7, eM7⟩ : ∃ z, z = (gh_row M4 25 0 (va_cpy (M4 3 t0) (M4 25 0) a0.toNatClampNeg (nI 0).toNatClampNeg (M4 24 0 2).toNatClampNeg)) := ⟨_, rfl⟩
      rw [← eM7]
      replace hw := hw _ eM7
      exact gh_vret dc_X2_hear_47 hE rfl hw
  · replace hw := hw.2 c3
    refine gh_iload_n dc_X2_hear_10 rfl ?_
    refine gh_bipush (v := (nI 12)) dc_X2_hear_11 gb_12 ?_
    refine gh_min (S := [vR 24 0]) dc_X2_hear_13 tw_689 tw_425 tw_11 tw_426 (by decide) (Nat.le_of_ble_eq_true rfl) ?_
    refine gh_goto (tgt := 20) dc_X2_hear_16 rfl ?_
    refine gh_put (k := 24) (t := 0) dc_X2_hear_20 fl_RX2_150 (by decide) (by decide) rfl rfl (fun _ h => by cases h; rfl) rfl rfl ?_
    obtain ⟨M8, eM8⟩ : ∃ z, z = (gh_st M2 24 0 2 (if (nI 12) < a1 then (nI 12) else a1)) := ⟨_, rfl⟩
    rw [← eM8]
    replace hw := hw _ eM8
    refine gh_aload_n dc_X2_hear_23 rfl ?_
    refine gh_getI (k := 24) (t := 0) dc_X2_hear_24 fl_RX2_150 (by decide) (by decide) rfl rfl ?_
    refine gh_if_le (tgt := 47) dc_X2_hear_27 rfl (fun c9 => ?_) (fun c9 => ?_)
    · replace hw := hw.1 c9
      exact gh_vret dc_X2_hear_47 hE rfl hw
    · replace hw := hw.2 c9
      refine gh_aload_n dc_X2_hear_30 rfl ?_
      refine gh_getR (k := 2) (t := t0) dc_X2_hear_31 fl_RX2_153 (by decide) ht0 rfl rfl ?_
      refine gh_iload_n dc_X2_hear_34 rfl ?_
      refine gh_aload_n dc_X2_hear_35 rfl ?_
      refine gh_getR (k := 24) (t := 0) dc_X2_hear_36 fl_RX2_18 (by decide) (by decide) rfl rfl ?_
      refine gh_iconst (v := (nI 0)) dc_X2_hear_39 gc_0 ?_
      refine gh_aload_n dc_X2_hear_40 rfl ?_
      refine gh_getI (k := 24) (t := 0) dc_X2_hear_41 fl_RX2_150 (by decide) (by decide) rfl rfl ?_
      obtain ⟨h10, hw⟩ := hw
      refine gh_copy (z := 0) (ks := 3) (ts := t0) (kd := 25) (td := 0) (S := []) dc_X2_hear_44 tw_594 tw_316 tw_315 tw_10 (by decide) (Nat.le_of_ble_eq_true rfl) (by decide) rfl rfl (by decide) ht0 (by decide) (by decide) h10.1 h10.2.1 h10.2.2.1 h10.2.2.2.1 h10.2.2.2.2 (fun h => absurd h (by decide)) ?_
      obtain ⟨M11, eM11⟩ : ∃ z, z = (gh_row M8 25 0 (va_cpy (M8 3 t0) (M8 25 0) a0.toNatClampNeg (nI 0).toNatClampNeg (M8 24 0 2).toNatClampNeg)) := ⟨_, rfl⟩
      rw [← eM11]
      replace hw := hw _ eM11
      exact gh_vret dc_X2_hear_47 hE rfl hw
theorem lk_X2_isAsTold_2 {wd : gh_Wd} {x : gh_X} {Q : Int32 → gh_M → Prop}   (hE : gh_E wd (gh_Qi Q) x)   : ∀ (n : Nat) (x1 : Int32) (x2 : Int32) (M : gh_M), wl_X2_isAsTold_2 Q n x1 x2 M → gh_J mi_X2_isAsTold 5 wd x M 2 [some (vR 24 0), some (vI x1), some (vI x2)] [] := by
  intro n
  induction n with
  | zero => intro x1 x2 M hw; exact hw.elim
  | succ n ih =>
    intro x1 x2 M hw
    unfold wl_X2_isAsTold_2 at hw
    refine gh_iload_n dc_X2_isAsTold_2 rfl ?_
    refine gh_aload_n dc_X2_isAsTold_3 rfl ?_
    refine gh_getI (k := 24) (t := 0) dc_X2_isAsTold_4 fl_RX2_150 (by decide) (by decide) rfl rfl ?_
    refine gh_icmp_ge (tgt := 43) dc_X2_isAsTold_7 rfl (fun c1 => ?_) (fun c1 => ?_)
    · replace hw := hw.1 c1
      refine gh_iconst (v := (nI 1)) dc_X2_isAsTold_43 gc_1 ?_
      exact gh_zret dc_X2_isAsTold_44 hE rfl (by decide) hw
    · replace hw := hw.2 c1
      refine gh_aload_n dc_X2_isAsTold_10 rfl ?_
      refine gh_getR (k := 24) (t := 0) dc_X2_isAsTold_11 fl_RX2_12 (by decide) (by decide) rfl rfl ?_
      refine gh_callVv (mi' := mi_X5_tickOn) (as := []) (S := []) (k := 6) (t := 28) dc_X2_isAsTold_14 ml_RX2_53 ok_X5_tickOn rfl rfl (by decide) (Nat.le_of_ble_eq_true rfl) (by decide) (by decide) rfl rfl (wk_X5_tickOn (by decide) _ _ hw) (fun M3 hw => ?_)
      refine gh_aload_n dc_X2_isAsTold_17 rfl ?_
      refine gh_getR (k := 24) (t := 0) dc_X2_isAsTold_18 fl_RX2_12 (by decide) (by decide) rfl rfl ?_
      refine gh_getR (k := 6) (t := 28) dc_X2_isAsTold_21 fl_RX2_156 (by decide) (by decide) rfl rfl ?_
      refine gh_iload_n dc_X2_isAsTold_24 rfl ?_
      obtain ⟨h4, hw⟩ := hw
      refine gh_iald (k := 16) (t := 28) dc_X2_isAsTold_25 rfl (by decide) (by decide) h4 ?_
      refine gh_aload_n dc_X2_isAsTold_26 rfl ?_
      refine gh_getR (k := 24) (t := 0) dc_X2_isAsTold_27 fl_RX2_18 (by decide) (by decide) rfl rfl ?_
      refine gh_iload_n dc_X2_isAsTold_30 rfl ?_
      obtain ⟨h5, hw⟩ := hw
      refine gh_iald (k := 25) (t := 0) dc_X2_isAsTold_31 rfl (by decide) (by decide) h5 ?_
      refine gh_icmp_eq (tgt := 37) dc_X2_isAsTold_32 rfl (fun c6 => ?_) (fun c6 => ?_)
      · replace hw := hw.1 c6
        obtain ⟨y2_7, ey2_7⟩ : ∃ z, z = (x2 + (nI 1)) := ⟨_, rfl⟩
        replace hw := hw _ ey2_7
        refine gh_iinc (v := y2_7) (L' := [some (vR 24 0), some (vI x1), some (vI y2_7)]) dc_X2_isAsTold_37 rfl ((congrArg (fun z => x2 + z) gc_1).trans ey2_7.symm) (by decide) rfl rfl ?_
        refine gh_goto (tgt := 2) dc_X2_isAsTold_40 rfl ?_
        refine gh_drop (pc' := 0) [some (vR 24 0), some (vI x1), some (vI y2_7)] ⟨rfl, rfl, rfl, trivial⟩ ?_
        exact ih _ _ _ hw
      · replace hw := hw.2 c6
        refine gh_iconst (v := (nI 0)) dc_X2_isAsTold_35 gc_0 ?_
        exact gh_zret dc_X2_isAsTold_36 hE rfl (by decide) hw
theorem wk_X2_isAsTold   (Q : Int32 → gh_M → Prop) (a0 : Int32) (M : gh_M) (hw : wp_X2_isAsTold  a0 M Q) : gh_Calls 5 mi_X2_isAsTold [vR 24 0, vI a0] M (gh_Qi Q) := by
  refine gh_of (by decide) rfl 1 rfl (L0 := [some (vR 24 0), some (vI a0), none]) rfl (fun wd x hE => ?_)
  unfold wp_X2_isAsTold at hw
  refine gh_iconst (v := (nI 0)) dc_X2_isAsTold_0 gc_0 ?_
  refine gh_istore_n (L' := [some (vR 24 0), some (vI a0), some (vI (nI 0))]) dc_X2_isAsTold_1 (by decide) rfl rfl ?_
  refine gh_drop (pc' := 0) [some (vR 24 0), some (vI a0), some (vI (nI 0))] ⟨rfl, rfl, rfl, trivial⟩ ?_
  obtain ⟨k, hw⟩ := hw
  exact lk_X2_isAsTold_2  hE  k _ _ _ hw
theorem lk_X2_fittingTricks_45 {wd : gh_Wd} {x : gh_X} {Q : Int32 → gh_M → Prop} {t0 : Nat} (ht0 : t0 < 29) (hE : gh_E wd (gh_Qi Q) x)   : ∀ (n : Nat) (x2 : Int32) (x3 : Int32) (x4 : Int32) (x6 : Int32) (x7 : Int32) (x8 : Int32) (M : gh_M), wl_X2_fittingTricks_45 t0 Q n x2 x3 x4 x6 x7 x8 M → gh_J mi_X2_fittingTricks 6 wd x M 45 [some (vR 24 0), some (vR 6 t0), some (vI x2), some (vI x3), some (vI x4), none, some (vI x6), some (vI x7), some (vI x8)] [] := by
  intro n
  induction n with
  | zero => intro x2 x3 x4 x6 x7 x8 M hw; exact hw.elim
  | succ n ih =>
    intro x2 x3 x4 x6 x7 x8 M hw
    unfold wl_X2_fittingTricks_45 at hw
    refine gh_iload dc_X2_fittingTricks_45 rfl ?_
    refine gh_iload dc_X2_fittingTricks_47 rfl ?_
    refine gh_icmp_gt (tgt := 150) dc_X2_fittingTricks_49 rfl (fun c5 => ?_) (fun c5 => ?_)
    · replace hw := hw.1 c5
      refine gh_iload dc_X2_fittingTricks_150 rfl ?_
      exact gh_iret dc_X2_fittingTricks_152 hE rfl hw
    · replace hw := hw.2 c5
      refine gh_aload_n dc_X2_fittingTricks_52 rfl ?_
      refine gh_getR (k := 24) (t := 0) dc_X2_fittingTricks_53 fl_RX2_12 (by decide) (by decide) rfl rfl ?_
      refine gh_aload_n dc_X2_fittingTricks_56 rfl ?_
      refine gh_callVv (mi' := mi_X5_copyFrom) (as := [vR 6 t0]) (S := []) (k := 6) (t := 28) dc_X2_fittingTricks_57 ml_RX2_38 ok_X5_copyFrom rfl rfl (by decide) (Nat.le_of_ble_eq_true rfl) (by decide) (by decide) rfl rfl (wk_X5_copyFrom (by decide) ht0 _ _ hw) (fun M7 hw => ?_)
      refine gh_iload_n dc_X2_fittingTricks_60 rfl ?_
      refine (Decidable.em (x3 = (nI 0))).elim (fun c8 => ?_) (fun c8 => ?_)
      · replace hw := hw.1 c8
        refine gh_lookup (tgt := 88) dc_X2_fittingTricks_61 (by decide) (by rw [c8]; try rfl) rfl ?_
        refine gh_aload_n dc_X2_fittingTricks_88 rfl ?_
        refine gh_getR (k := 24) (t := 0) dc_X2_fittingTricks_89 fl_RX2_12 (by decide) (by decide) rfl rfl ?_
        refine gh_getR (k := 6) (t := 28) dc_X2_fittingTricks_92 fl_RX2_159 (by decide) (by decide) rfl rfl ?_
        refine gh_iload_n dc_X2_fittingTricks_95 rfl ?_
        refine gh_iload dc_X2_fittingTricks_96 rfl ?_
        obtain ⟨h9, hw⟩ := hw
        refine gh_iast (k := 7) (t := 28) dc_X2_fittingTricks_98 rfl (by decide) (by decide) h9 ?_
        obtain ⟨M10, eM10⟩ : ∃ z, z = (gh_st M7 7 28 x2.toNatClampNeg x8) := ⟨_, rfl⟩
        rw [← eM10]
        replace hw := hw _ eM10
        refine gh_goto (tgt := 127) dc_X2_fittingTricks_99 rfl ?_
        refine gh_iload dc_X2_fittingTricks_127 rfl ?_
        refine gh_aload_n dc_X2_fittingTricks_129 rfl ?_
        refine gh_iload dc_X2_fittingTricks_130 rfl ?_
        refine gh_callVi (mi' := mi_X2_isAsTold) (as := [vI x4]) (S := [vI x7]) (k := 24) (t := 0) dc_X2_fittingTricks_132 ml_RX2_165 ok_X2_isAsTold rfl rfl (by decide) (Nat.le_of_ble_eq_true rfl) (by decide) (by decide) rfl rfl (wk_X2_isAsTold _ _ _ hw) (fun r11 M12 hw => ?_)
        refine gh_callSi (mi' := mi_X6_oneIf) (as := [vI r11]) (S := [vI x7]) dc_X2_fittingTricks_135 ml_RX2_168 ok_X6_oneIf rfl rfl (by decide) (Nat.le_of_ble_eq_true rfl) (wk_X6_oneIf _ _ _ hw) (fun r13 M14 hw => ?_)
        refine gh_iload dc_X2_fittingTricks_138 rfl ?_
        refine gh_ishl dc_X2_fittingTricks_140 ?_
        refine gh_ior dc_X2_fittingTricks_141 ?_
        obtain ⟨y7_15, ey7_15⟩ : ∃ z, z = (x7 ||| (r13 <<< (x8 &&& 31))) := ⟨_, rfl⟩
        rw [← ey7_15]
        replace hw := hw _ ey7_15
        refine gh_istore (L' := [some (vR 24 0), some (vR 6 t0), some (vI x2), some (vI x3), some (vI x4), none, some (vI x6), some (vI y7_15), some (vI x8)]) dc_X2_fittingTricks_142 (by decide) rfl rfl ?_
        obtain ⟨y8_16, ey8_16⟩ : ∃ z, z = (x8 + (nI 1)) := ⟨_, rfl⟩
        replace hw := hw _ ey8_16
        refine gh_iinc (v := y8_16) (L' := [some (vR 24 0), some (vR 6 t0), some (vI x2), some (vI x3), some (vI x4), none, some (vI x6), some (vI y7_15), some (vI y8_16)]) dc_X2_fittingTricks_144 rfl ((congrArg (fun z => x8 + z) gc_1).trans ey8_16.symm) (by decide) rfl rfl ?_
        refine gh_goto (tgt := 45) dc_X2_fittingTricks_147 rfl ?_
        refine gh_drop (pc' := 0) [some (vR 24 0), some (vR 6 t0), some (vI x2), some (vI x3), some (vI x4), none, some (vI x6), some (vI y7_15), some (vI y8_16)] ⟨rfl, rfl, rfl, rfl, rfl, rfl, rfl, rfl, trivial⟩ ?_
        exact ih _ _ _ _ _ _ _ hw
      · replace hw := hw.2 c8
        refine (Decidable.em (x3 = (nI 1))).elim (fun c17 => ?_) (fun c17 => ?_)
        · replace hw := hw.1 c17
          refine gh_lookup (tgt := 102) dc_X2_fittingTricks_61 (by decide) (by rw [c17]; try rfl) rfl ?_
          refine gh_aload_n dc_X2_fittingTricks_102 rfl ?_
          refine gh_getR (k := 24) (t := 0) dc_X2_fittingTricks_103 fl_RX2_12 (by decide) (by decide) rfl rfl ?_
          refine gh_getR (k := 6) (t := 28) dc_X2_fittingTricks_106 fl_RX2_162 (by decide) (by decide) rfl rfl ?_
          refine gh_iload_n dc_X2_fittingTricks_109 rfl ?_
          refine gh_iload dc_X2_fittingTricks_110 rfl ?_
          obtain ⟨h18, hw⟩ := hw
          refine gh_iast (k := 9) (t := 28) dc_X2_fittingTricks_112 rfl (by decide) (by decide) h18 ?_
          obtain ⟨M19, eM19⟩ : ∃ z, z = (gh_st M7 9 28 x2.toNatClampNeg x8) := ⟨_, rfl⟩
          rw [← eM19]
          replace hw := hw _ eM19
          refine gh_goto (tgt := 127) dc_X2_fittingTricks_113 rfl ?_
          refine gh_iload dc_X2_fittingTricks_127 rfl ?_
          refine gh_aload_n dc_X2_fittingTricks_129 rfl ?_
          refine gh_iload dc_X2_fittingTricks_130 rfl ?_
          refine gh_callVi (mi' := mi_X2_isAsTold) (as := [vI x4]) (S := [vI x7]) (k := 24) (t := 0) dc_X2_fittingTricks_132 ml_RX2_165 ok_X2_isAsTold rfl rfl (by decide) (Nat.le_of_ble_eq_true rfl) (by decide) (by decide) rfl rfl (wk_X2_isAsTold _ _ _ hw) (fun r20 M21 hw => ?_)
          refine gh_callSi (mi' := mi_X6_oneIf) (as := [vI r20]) (S := [vI x7]) dc_X2_fittingTricks_135 ml_RX2_168 ok_X6_oneIf rfl rfl (by decide) (Nat.le_of_ble_eq_true rfl) (wk_X6_oneIf _ _ _ hw) (fun r22 M23 hw => ?_)
          refine gh_iload dc_X2_fittingTricks_138 rfl ?_
          refine gh_ishl dc_X2_fittingTricks_140 ?_
          refine gh_ior dc_X2_fittingTricks_141 ?_
          obtain ⟨y7_24, ey7_24⟩ : ∃ z, z = (x7 ||| (r22 <<< (x8 &&& 31))) := ⟨_, rfl⟩
          rw [← ey7_24]
          replace hw := hw _ ey7_24
          refine gh_istore (L' := [some (vR 24 0), some (vR 6 t0), some (vI x2), some (vI x3), some (vI x4), none, some (vI x6), some (vI y7_24), some (vI x8)]) dc_X2_fittingTricks_142 (by decide) rfl rfl ?_
          obtain ⟨y8_25, ey8_25⟩ : ∃ z, z = (x8 + (nI 1)) := ⟨_, rfl⟩
          replace hw := hw _ ey8_25
          refine gh_iinc (v := y8_25) (L' := [some (vR 24 0), some (vR 6 t0), some (vI x2), some (vI x3), some (vI x4), none, some (vI x6), some (vI y7_24), some (vI y8_25)]) dc_X2_fittingTricks_144 rfl ((congrArg (fun z => x8 + z) gc_1).trans ey8_25.symm) (by decide) rfl rfl ?_
          refine gh_goto (tgt := 45) dc_X2_fittingTricks_147 rfl ?_
          refine gh_drop (pc' := 0) [some (vR 24 0), some (vR 6 t0), some (vI x2), some (vI x3), some (vI x4), none, some (vI x6), some (vI y7_24), some (vI y8_25)] ⟨rfl, rfl, rfl, rfl, rfl, rfl, rfl, rfl, trivial⟩ ?_
          exact ih _ _ _ _ _ _ _ hw
        · replace hw := hw.2 c17
          refine gh_lookup (tgt := 116) dc_X2_fittingTricks_61 (by decide) ((lv_osw c8 (by decide)).trans ((lv_osw c17 (by decide)).trans (rfl))) rfl ?_
          refine gh_aload_n dc_X2_fittingTricks_116 rfl ?_
          refine gh_getR (k := 24) (t := 0) dc_X2_fittingTricks_117 fl_RX2_12 (by decide) (by decide) rfl rfl ?_
          refine gh_getR (k := 6) (t := 28) dc_X2_fittingTricks_120 fl_RX2_110 (by decide) (by decide) rfl rfl ?_
          refine gh_iload_n dc_X2_fittingTricks_123 rfl ?_
          refine gh_iload dc_X2_fittingTricks_124 rfl ?_
          obtain ⟨h26, hw⟩ := hw
          refine gh_iast (k := 8) (t := 28) dc_X2_fittingTricks_126 rfl (by decide) (by decide) h26 ?_
          obtain ⟨M27, eM27⟩ : ∃ z, z = (gh_st M7 8 28 x2.toNatClampNeg x8) := ⟨_, rfl⟩
          rw [← eM27]
          replace hw := hw _ eM27
          refine gh_iload dc_X2_fittingTricks_127 rfl ?_
          refine gh_aload_n dc_X2_fittingTricks_129 rfl ?_
          refine gh_iload dc_X2_fittingTricks_130 rfl ?_
          refine gh_callVi (mi' := mi_X2_isAsTold) (as := [vI x4]) (S := [vI x7]) (k := 24) (t := 0) dc_X2_fittingTricks_132 ml_RX2_165 ok_X2_isAsTold rfl rfl (by decide) (Nat.le_of_ble_eq_true rfl) (by decide) (by decide) rfl rfl (wk_X2_isAsTold _ _ _ hw) (fun r28 M29 hw => ?_)
          refine gh_callSi (mi' := mi_X6_oneIf) (as := [vI r28]) (S := [vI x7]) dc_X2_fittingTricks_135 ml_RX2_168 ok_X6_oneIf rfl rfl (by decide) (Nat.le_of_ble_eq_true rfl) (wk_X6_oneIf _ _ _ hw) (fun r30 M31 hw => ?_)
          refine gh_iload dc_X2_fittingTricks_138 rfl ?_
          refine gh_ishl dc_X2_fittingTricks_140 ?_
          refine gh_ior dc_X2_fittingTricks_141 ?_
          obtain ⟨y7_32, ey7_32⟩ : ∃ z, z = (x7 ||| (r30 <<< (x8 &&& 31))) := ⟨_, rfl⟩
          rw [← ey7_32]
          replace hw := hw _ ey7_32
          refine gh_istore (L' := [some (vR 24 0), some (vR 6 t0), some (vI x2), some (vI x3), some (vI x4), none, some (vI x6), some (vI y7_32), some (vI x8)]) dc_X2_fittingTricks_142 (by decide) rfl rfl ?_
          obtain ⟨y8_33, ey8_33⟩ : ∃ z, z = (x8 + (nI 1)) := ⟨_, rfl⟩
          replace hw := hw _ ey8_33
          refine gh_iinc (v := y8_33) (L' := [some (vR 24 0), some (vR 6 t0), some (vI x2), some (vI x3), some (vI x4), none, some (vI x6), some (vI y7_32), some (vI y8_33)]) dc_X2_fittingTricks_144 rfl ((congrArg (fun z => x8 + z) gc_1).trans ey8_33.symm) (by decide) rfl rfl ?_
          refine gh_goto (tgt := 45) dc_X2_fittingTricks_147 rfl ?_
          refine gh_drop (pc' := 0) [some (vR 24 0), some (vR 6 t0), some (vI x2), some (vI x3), some (vI x4), none, some (vI x6), some (vI y7_32), some (vI y8_33)] ⟨rfl, rfl, rfl, rfl, rfl, rfl, rfl, rfl, trivial⟩ ?_
          exact ih _ _ _ _ _ _ _ hw
theorem wk_X2_fittingTricks {t0 : Nat} (ht0 : t0 < 29) (Q : Int32 → gh_M → Prop) (a0 : Int32) (a1 : Int32) (a2 : Int32) (M : gh_M) (hw : wp_X2_fittingTricks t0 a0 a1 a2 M Q) : gh_Calls 6 mi_X2_fittingTricks [vR 24 0, vR 6 t0, vI a0, vI a1, vI a2] M (gh_Qi Q) := by
  refine gh_of (by decide) rfl 4 rfl (L0 := [some (vR 24 0), some (vR 6 t0), some (vI a0), some (vI a1), some (vI a2), none, none, none, none]) rfl (fun wd x hE => ?_)
  unfold wp_X2_fittingTricks at hw
  refine gh_iload_n dc_X2_fittingTricks_0 rfl ?_
  refine gh_iconst (v := (nI 2)) dc_X2_fittingTricks_1 gc_2 ?_
  refine gh_icmp_ne (tgt := 9) dc_X2_fittingTricks_2 rfl (fun c1 => ?_) (fun c1 => ?_)
  · replace hw := hw.1 c1
    refine gh_iconst (v := (nI 1)) dc_X2_fittingTricks_9 gc_1 ?_
    refine gh_istore (L' := [some (vR 24 0), some (vR 6 t0), some (vI a0), some (vI a1), some (vI a2), some (vI (nI 1)), none, none, none]) dc_X2_fittingTricks_10 (by decide) rfl rfl ?_
    refine gh_iload_n dc_X2_fittingTricks_12 rfl ?_
    refine gh_if_ne (tgt := 20) dc_X2_fittingTricks_13 rfl (fun c2 => ?_) (fun c2 => ?_)
    · replace hw := hw.1 c2
      refine gh_iload_n dc_X2_fittingTricks_20 rfl ?_
      refine gh_iconst (v := (nI 1)) dc_X2_fittingTricks_21 gc_1 ?_
      refine gh_icmp_ne (tgt := 30) dc_X2_fittingTricks_22 rfl (fun c3 => ?_) (fun c3 => ?_)
      · replace hw := hw.1 c3
        refine gh_aload_n dc_X2_fittingTricks_30 rfl ?_
        refine gh_getI (k := 6) (t := t0) dc_X2_fittingTricks_31 fl_RX2_107 (by decide) ht0 rfl rfl ?_
        refine gh_iconst (v := (nI 1)) dc_X2_fittingTricks_34 gc_1 ?_
        refine gh_isub dc_X2_fittingTricks_35 ?_
        obtain ⟨y6_4, ey6_4⟩ : ∃ z, z = ((M 6 t0 0) - (nI 1)) := ⟨_, rfl⟩
        rw [← ey6_4]
        replace hw := hw _ ey6_4
        refine gh_istore (L' := [some (vR 24 0), some (vR 6 t0), some (vI a0), some (vI a1), some (vI a2), some (vI (nI 1)), some (vI y6_4), none, none]) dc_X2_fittingTricks_36 (by decide) rfl rfl ?_
        refine gh_iconst (v := (nI 0)) dc_X2_fittingTricks_38 gc_0 ?_
        refine gh_istore (L' := [some (vR 24 0), some (vR 6 t0), some (vI a0), some (vI a1), some (vI a2), some (vI (nI 1)), some (vI y6_4), some (vI (nI 0)), none]) dc_X2_fittingTricks_39 (by decide) rfl rfl ?_
        refine gh_iload dc_X2_fittingTricks_41 rfl ?_
        refine gh_istore (L' := [some (vR 24 0), some (vR 6 t0), some (vI a0), some (vI a1), some (vI a2), some (vI (nI 1)), some (vI y6_4), some (vI (nI 0)), some (vI (nI 1))]) dc_X2_fittingTricks_43 (by decide) rfl rfl ?_
        refine gh_drop (pc' := 0) [some (vR 24 0), some (vR 6 t0), some (vI a0), some (vI a1), some (vI a2), none, some (vI y6_4), some (vI (nI 0)), some (vI (nI 1))] ⟨rfl, rfl, rfl, rfl, rfl, rfl, rfl, rfl, trivial⟩ ?_
        obtain ⟨k, hw⟩ := hw
        exact lk_X2_fittingTricks_45 ht0 hE  k _ _ _ _ _ _ _ hw
      · replace hw := hw.2 c3
        refine gh_bipush (v := (nI 9)) dc_X2_fittingTricks_25 gb_9 ?_
        refine gh_goto (tgt := 36) dc_X2_fittingTricks_27 rfl ?_
        refine gh_istore (L' := [some (vR 24 0), some (vR 6 t0), some (vI a0), some (vI a1), some (vI a2), some (vI (nI 1)), some (vI (nI 9)), none, none]) dc_X2_fittingTricks_36 (by decide) rfl rfl ?_
        refine gh_iconst (v := (nI 0)) dc_X2_fittingTricks_38 gc_0 ?_
        refine gh_istore (L' := [some (vR 24 0), some (vR 6 t0), some (vI a0), some (vI a1), some (vI a2), some (vI (nI 1)), some (vI (nI 9)), some (vI (nI 0)), none]) dc_X2_fittingTricks_39 (by decide) rfl rfl ?_
        refine gh_iload dc_X2_fittingTricks_41 rfl ?_
        refine gh_istore (L' := [some (vR 24 0), some (vR 6 t0), some (vI a0), some (vI a1), some (vI a2), some (vI (nI 1)), some (vI (nI 9)), some (vI (nI 0)), some (vI (nI 1))]) dc_X2_fittingTricks_43 (by decide) rfl rfl ?_
        refine gh_drop (pc' := 0) [some (vR 24 0), some (vR 6 t0), some (vI a0), some (vI a1), some (vI a2), none, some (vI (nI 9)), some (vI (nI 0)), some (vI (nI 1))] ⟨rfl, rfl, rfl, rfl, rfl, rfl, rfl, rfl, trivial⟩ ?_
        obtain ⟨k, hw⟩ := hw
        exact lk_X2_fittingTricks_45 ht0 hE  k _ _ _ _ _ _ _ hw
    · replace hw := hw.2 c2
      refine gh_iconst (v := (nI 5)) dc_X2_fittingTricks_16 gc_5 ?_
      refine gh_goto (tgt := 36) dc_X2_fittingTricks_17 rfl ?_
      refine gh_istore (L' := [some (vR 24 0), some (vR 6 t0), some (vI a0), some (vI a1), some (vI a2), some (vI (nI 1)), some (vI (nI 5)), none, none]) dc_X2_fittingTricks_36 (by decide) rfl rfl ?_
      refine gh_iconst (v := (nI 0)) dc_X2_fittingTricks_38 gc_0 ?_
      refine gh_istore (L' := [some (vR 24 0), some (vR 6 t0), some (vI a0), some (vI a1), some (vI a2), some (vI (nI 1)), some (vI (nI 5)), some (vI (nI 0)), none]) dc_X2_fittingTricks_39 (by decide) rfl rfl ?_
      refine gh_iload dc_X2_fittingTricks_41 rfl ?_
      refine gh_istore (L' := [some (vR 24 0), some (vR 6 t0), some (vI a0), some (vI a1), some (vI a2), some (vI (nI 1)), some (vI (nI 5)), some (vI (nI 0)), some (vI (nI 1))]) dc_X2_fittingTricks_43 (by decide) rfl rfl ?_
      refine gh_drop (pc' := 0) [some (vR 24 0), some (vR 6 t0), some (vI a0), some (vI a1), some (vI a2), none, some (vI (nI 5)), some (vI (nI 0)), some (vI (nI 1))] ⟨rfl, rfl, rfl, rfl, rfl, rfl, rfl, rfl, trivial⟩ ?_
      obtain ⟨k, hw⟩ := hw
      exact lk_X2_fittingTricks_45 ht0 hE  k _ _ _ _ _ _ _ hw
  · replace hw := hw.2 c1
    refine gh_iconst (v := (nI 0)) dc_X2_fittingTricks_5 gc_0 ?_
    refine gh_goto (tgt := 10) dc_X2_fittingTricks_6 rfl ?_
    refine gh_istore (L' := [some (vR 24 0), some (vR 6 t0), some (vI a0), some (vI a1), some (vI a2), some (vI (nI 0)), none, none, none]) dc_X2_fittingTricks_10 (by decide) rfl rfl ?_
    refine gh_iload_n dc_X2_fittingTricks_12 rfl ?_
    refine gh_if_ne (tgt := 20) dc_X2_fittingTricks_13 rfl (fun c34 => ?_) (fun c34 => ?_)
    · replace hw := hw.1 c34
      refine gh_iload_n dc_X2_fittingTricks_20 rfl ?_
      refine gh_iconst (v := (nI 1)) dc_X2_fittingTricks_21 gc_1 ?_
      refine gh_icmp_ne (tgt := 30) dc_X2_fittingTricks_22 rfl (fun c35 => ?_) (fun c35 => ?_)
      · replace hw := hw.1 c35
        refine gh_aload_n dc_X2_fittingTricks_30 rfl ?_
        refine gh_getI (k := 6) (t := t0) dc_X2_fittingTricks_31 fl_RX2_107 (by decide) ht0 rfl rfl ?_
        refine gh_iconst (v := (nI 1)) dc_X2_fittingTricks_34 gc_1 ?_
        refine gh_isub dc_X2_fittingTricks_35 ?_
        obtain ⟨y6_36, ey6_36⟩ : ∃ z, z = ((M 6 t0 0) - (nI 1)) := ⟨_, rfl⟩
        rw [← ey6_36]
        replace hw := hw _ ey6_36
        refine gh_istore (L' := [some (vR 24 0), some (vR 6 t0), some (vI a0), some (vI a1), some (vI a2), some (vI (nI 0)), some (vI y6_36), none, none]) dc_X2_fittingTricks_36 (by decide) rfl rfl ?_
        refine gh_iconst (v := (nI 0)) dc_X2_fittingTricks_38 gc_0 ?_
        refine gh_istore (L' := [some (vR 24 0), some (vR 6 t0), some (vI a0), some (vI a1), some (vI a2), some (vI (nI 0)), some (vI y6_36), some (vI (nI 0)), none]) dc_X2_fittingTricks_39 (by decide) rfl rfl ?_
        refine gh_iload dc_X2_fittingTricks_41 rfl ?_
        refine gh_istore (L' := [some (vR 24 0), some (vR 6 t0), some (vI a0), some (vI a1), some (vI a2), some (vI (nI 0)), some (vI y6_36), some (vI (nI 0)), some (vI (nI 0))]) dc_X2_fittingTricks_43 (by decide) rfl rfl ?_
        refine gh_drop (pc' := 0) [some (vR 24 0), some (vR 6 t0), some (vI a0), some (vI a1), some (vI a2), none, some (vI y6_36), some (vI (nI 0)), some (vI (nI 0))] ⟨rfl, rfl, rfl, rfl, rfl, rfl, rfl, rfl, trivial⟩ ?_
        obtain ⟨k, hw⟩ := hw
        exact lk_X2_fittingTricks_45 ht0 hE  k _ _ _ _ _ _ _ hw
      · replace hw := hw.2 c35
        refine gh_bipush (v := (nI 9)) dc_X2_fittingTricks_25 gb_9 ?_
        refine gh_goto (tgt := 36) dc_X2_fittingTricks_27 rfl ?_
        refine gh_istore (L' := [some (vR 24 0), some (vR 6 t0), some (vI a0), some (vI a1), some (vI a2), some (vI (nI 0)), some (vI (nI 9)), none, none]) dc_X2_fittingTricks_36 (by decide) rfl rfl ?_
        refine gh_iconst (v := (nI 0)) dc_X2_fittingTricks_38 gc_0 ?_
        refine gh_istore (L' := [some (vR 24 0), some (vR 6 t0), some (vI a0), some (vI a1), some (vI a2), some (vI (nI 0)), some (vI (nI 9)), some (vI (nI 0)), none]) dc_X2_fittingTricks_39 (by decide) rfl rfl ?_
        refine gh_iload dc_X2_fittingTricks_41 rfl ?_
        refine gh_istore (L' := [some (vR 24 0), some (vR 6 t0), some (vI a0), some (vI a1), some (vI a2), some (vI (nI 0)), some (vI (nI 9)), some (vI (nI 0)), some (vI (nI 0))]) dc_X2_fittingTricks_43 (by decide) rfl rfl ?_
        refine gh_drop (pc' := 0) [some (vR 24 0), some (vR 6 t0), some (vI a0), some (vI a1), some (vI a2), none, some (vI (nI 9)), some (vI (nI 0)), some (vI (nI 0))] ⟨rfl, rfl, rfl, rfl, rfl, rfl, rfl, rfl, trivial⟩ ?_
        obtain ⟨k, hw⟩ := hw
        exact lk_X2_fittingTricks_45 ht0 hE  k _ _ _ _ _ _ _ hw
    · replace hw := hw.2 c34
      refine gh_iconst (v := (nI 5)) dc_X2_fittingTricks_16 gc_5 ?_
      refine gh_goto (tgt := 36) dc_X2_fittingTricks_17 rfl ?_
      refine gh_istore (L' := [some (vR 24 0), some (vR 6 t0), some (vI a0), some (vI a1), some (vI a2), some (vI (nI 0)), some (vI (nI 5)), none, none]) dc_X2_fittingTricks_36 (by decide) rfl rfl ?_
      refine gh_iconst (v := (nI 0)) dc_X2_fittingTricks_38 gc_0 ?_
      refine gh_istore (L' := [some (vR 24 0), some (vR 6 t0), some (vI a0), some (vI a1), some (vI a2), some (vI (nI 0)), some (vI (nI 5)), some (vI (nI 0)), none]) dc_X2_fittingTricks_39 (by decide) rfl rfl ?_
      refine gh_iload dc_X2_fittingTricks_41 rfl ?_
      refine gh_istore (L' := [some (vR 24 0), some (vR 6 t0), some (vI a0), some (vI a1), some (vI a2), some (vI (nI 0)), some (vI (nI 5)), some (vI (nI 0)), some (vI (nI 0))]) dc_X2_fittingTricks_43 (by decide) rfl rfl ?_
      refine gh_drop (pc' := 0) [some (vR 24 0), some (vR 6 t0), some (vI a0), some (vI a1), some (vI a2), none, some (vI (nI 5)), some (vI (nI 0)), some (vI (nI 0))] ⟨rfl, rfl, rfl, rfl, rfl, rfl, rfl, rfl, trivial⟩ ?_
      obtain ⟨k, hw⟩ := hw
      exact lk_X2_fittingTricks_45 ht0 hE  k _ _ _ _ _ _ _ hw
theorem wk_X6_who   (Q : Int32 → gh_M → Prop) (a0 : Int32) (a1 : Int32) (a2 : Int32) (a3 : Int32) (a4 : Int32) (a5 : Int32) (M : gh_M) (hw : wp_X6_who  a0 a1 a2 a3 a4 a5 M Q) : gh_Calls 7 mi_X6_who [vR 0 0, vI a0, vI a1, vI a2, vI a3, vI a4, vI a5] M (gh_Qi Q) := by
  refine gh_of (by decide) rfl 1 rfl (L0 := [some (vR 0 0), some (vI a0), some (vI a1), some (vI a2), some (vI a3), some (vI a4), some (vI a5), none]) rfl (fun wd x hE => ?_)
  unfold wp_X6_who at hw
  refine gh_aload_n dc_X6_who_0 rfl ?_
  refine gh_iload_n dc_X6_who_1 rfl ?_
  refine gh_callVi (mi' := mi_X6_isTrick) (as := [vI a0]) (S := []) (k := 0) (t := 0) dc_X6_who_2 ml_RX6_159 ok_X6_isTrick rfl rfl (by decide) (Nat.le_of_ble_eq_true rfl) (by decide) (by decide) rfl rfl (wk_X6_isTrick _ _ _ hw) (fun r1 M2 hw => ?_)
  refine gh_if_eq (tgt := 44) dc_X6_who_5 rfl (fun c3 => ?_) (fun c3 => ?_)
  · replace hw := hw.1 c3
    refine gh_ldc (v := (-1000001 : Int32)) dc_X6_who_44 tw_281 ?_
    exact gh_iret dc_X6_who_46 hE rfl hw
  · replace hw := hw.2 c3
    refine gh_iload_n dc_X6_who_8 rfl ?_
    refine gh_iconst (v := (nI 0)) dc_X6_who_9 gc_0 ?_
    refine gh_iconst (v := (nI 2)) dc_X6_who_10 gc_2 ?_
    refine gh_callSi (mi' := mi_X6_within) (as := [vI a1, vI (nI 0), vI (nI 2)]) (S := []) dc_X6_who_11 ml_RX6_62 ok_X6_within rfl rfl (by decide) (Nat.le_of_ble_eq_true rfl) (wk_X6_within _ _ _ _ _ hw) (fun r4 M5 hw => ?_)
    refine gh_if_eq (tgt := 44) dc_X6_who_14 rfl (fun c6 => ?_) (fun c6 => ?_)
    · replace hw := hw.1 c6
      refine gh_ldc (v := (-1000001 : Int32)) dc_X6_who_44 tw_281 ?_
      exact gh_iret dc_X6_who_46 hE rfl hw
    · replace hw := hw.2 c6
      refine gh_aload_n dc_X6_who_17 rfl ?_
      refine gh_iload_n dc_X6_who_18 rfl ?_
      refine gh_callVi (mi' := mi_X6_isCar) (as := [vI a2]) (S := []) (k := 0) (t := 0) dc_X6_who_19 ml_RX6_176 ok_X6_isCar rfl rfl (by decide) (Nat.le_of_ble_eq_true rfl) (by decide) (by decide) rfl rfl (wk_X6_isCar _ _ _ hw) (fun r7 M8 hw => ?_)
      refine gh_if_eq (tgt := 44) dc_X6_who_22 rfl (fun c9 => ?_) (fun c9 => ?_)
      · replace hw := hw.1 c9
        refine gh_ldc (v := (-1000001 : Int32)) dc_X6_who_44 tw_281 ?_
        exact gh_iret dc_X6_who_46 hE rfl hw
      · replace hw := hw.2 c9
        refine gh_iload dc_X6_who_25 rfl ?_
        refine gh_callSi (mi' := mi_X6_isRow) (as := [vI a3]) (S := []) dc_X6_who_27 ml_RX6_58 ok_X6_isRow rfl rfl (by decide) (Nat.le_of_ble_eq_true rfl) (wk_X6_isRow _ _ _ hw) (fun r10 M11 hw => ?_)
        refine gh_if_eq (tgt := 44) dc_X6_who_30 rfl (fun c12 => ?_) (fun c12 => ?_)
        · replace hw := hw.1 c12
          refine gh_ldc (v := (-1000001 : Int32)) dc_X6_who_44 tw_281 ?_
          exact gh_iret dc_X6_who_46 hE rfl hw
        · replace hw := hw.2 c12
          refine gh_iload dc_X6_who_33 rfl ?_
          refine gh_iconst (v := (nI 1)) dc_X6_who_35 gc_1 ?_
          refine gh_bipush (v := (nI 12)) dc_X6_who_36 gb_12 ?_
          refine gh_callSi (mi' := mi_X6_within) (as := [vI a5, vI (nI 1), vI (nI 12)]) (S := []) dc_X6_who_38 ml_RX6_62 ok_X6_within rfl rfl (by decide) (Nat.le_of_ble_eq_true rfl) (wk_X6_within _ _ _ _ _ hw) (fun r13 M14 hw => ?_)
          refine gh_if_ne (tgt := 47) dc_X6_who_41 rfl (fun c15 => ?_) (fun c15 => ?_)
          · replace hw := hw.1 c15
            refine gh_aload_n dc_X6_who_47 rfl ?_
            refine gh_getR (k := 0) (t := 0) dc_X6_who_48 fl_RX6_11 (by decide) (by decide) rfl rfl ?_
            refine gh_iload dc_X6_who_51 rfl ?_
            obtain ⟨h16, hw⟩ := hw
            refine gh_aald (k := 1) (t := 0) (a := 0) dc_X6_who_53 rfl (by decide) (by decide) (by decide) h16 rfl ?_
            have bj17 := gh_cl h16
            obtain ⟨j17, ej17⟩ : ∃ z, a3.toNatClampNeg = z := ⟨_, rfl⟩
            rw [ej17]
            rw [ej17] at bj17
            replace hw := hw _ bj17 ej17
            refine gh_iload dc_X6_who_54 rfl ?_
            refine gh_iload dc_X6_who_56 rfl ?_
            refine gh_callSi (mi' := mi_X6_findingIn) (as := [vR 2 j17, vI a4, vI a5]) (S := []) dc_X6_who_58 ml_RX6_286 ok_X6_findingIn rfl rfl (by decide) (Nat.le_of_ble_eq_true rfl) (wk_X6_findingIn (show j17 < 8 by omega) _ _ _ _ hw) (fun r18 M19 hw => ?_)
            refine gh_istore (L' := [some (vR 0 0), some (vI a0), some (vI a1), some (vI a2), some (vI a3), some (vI a4), some (vI a5), some (vI r18)]) dc_X6_who_61 (by decide) rfl rfl ?_
            refine gh_iload dc_X6_who_63 rfl ?_
            refine gh_if_eq (tgt := 75) dc_X6_who_65 rfl (fun c20 => ?_) (fun c20 => ?_)
            · replace hw := hw.1 c20
              refine gh_aload_n dc_X6_who_75 rfl ?_
              refine gh_getR (k := 0) (t := 0) dc_X6_who_76 fl_RX6_46 (by decide) (by decide) rfl rfl ?_
              refine gh_aload_n dc_X6_who_79 rfl ?_
              refine gh_getR (k := 0) (t := 0) dc_X6_who_80 fl_RX6_11 (by decide) (by decide) rfl rfl ?_
              refine gh_iload dc_X6_who_83 rfl ?_
              obtain ⟨h21, hw⟩ := hw
              refine gh_aald (k := 1) (t := 0) (a := 0) dc_X6_who_85 rfl (by decide) (by decide) (by decide) h21 rfl ?_
              have bj22 := gh_cl h21
              obtain ⟨j22, ej22⟩ : ∃ z, a3.toNatClampNeg = z := ⟨_, rfl⟩
              rw [ej22]
              rw [ej22] at bj22
              replace hw := hw _ bj22 ej22
              refine gh_iload dc_X6_who_86 rfl ?_
              refine gh_iload dc_X6_who_88 rfl ?_
              refine gh_callVv (mi' := mi_X2_hear) (as := [vR 2 j22, vI a4, vI a5]) (S := []) (k := 24) (t := 0) dc_X6_who_90 ml_RX6_290 ok_X2_hear rfl rfl (by decide) (Nat.le_of_ble_eq_true rfl) (by decide) (by decide) rfl rfl (wk_X2_hear (show j22 < 8 by omega) _ _ _ _ hw) (fun M24 hw => ?_)
              refine gh_aload_n dc_X6_who_93 rfl ?_
              refine gh_aload_n dc_X6_who_94 rfl ?_
              refine gh_getR (k := 0) (t := 0) dc_X6_who_95 fl_RX6_46 (by decide) (by decide) rfl rfl ?_
              refine gh_aload_n dc_X6_who_98 rfl ?_
              refine gh_getR (k := 0) (t := 0) dc_X6_who_99 fl_RX6_25 (by decide) (by decide) rfl rfl ?_
              refine gh_iload_n dc_X6_who_102 rfl ?_
              refine gh_iload_n dc_X6_who_103 rfl ?_
              refine gh_iload_n dc_X6_who_104 rfl ?_
              refine gh_callVi (mi' := mi_X2_fittingTricks) (as := [vR 6 0, vI a0, vI a1, vI a2]) (S := [vR 0 0]) (k := 24) (t := 0) dc_X6_who_105 ml_RX6_294 ok_X2_fittingTricks rfl rfl (by decide) (Nat.le_of_ble_eq_true rfl) (by decide) (by decide) rfl rfl (wk_X2_fittingTricks (by decide) _ _ _ _ _ hw) (fun r25 M26 hw => ?_)
              refine gh_callVi (mi' := mi_X6_fine) (as := [vI r25]) (S := []) (k := 0) (t := 0) dc_X6_who_108 ml_RX6_75 ok_X6_fine rfl rfl (by decide) (Nat.le_of_ble_eq_true rfl) (by decide) (by decide) rfl rfl (wk_X6_fine _ _ _ hw) (fun r27 M28 hw => ?_)
              exact gh_iret dc_X6_who_111 hE rfl hw
            · replace hw := hw.2 c20
              refine gh_aload_n dc_X6_who_68 rfl ?_
              refine gh_iload dc_X6_who_69 rfl ?_
              refine gh_callVi (mi' := mi_X6_found) (as := [vI r18]) (S := []) (k := 0) (t := 0) dc_X6_who_71 ml_RX6_67 ok_X6_found rfl rfl (by decide) (Nat.le_of_ble_eq_true rfl) (by decide) (by decide) rfl rfl (wk_X6_found _ _ _ hw) (fun r29 M30 hw => ?_)
              exact gh_iret dc_X6_who_74 hE rfl hw
          · replace hw := hw.2 c15
            refine gh_ldc (v := (-1000001 : Int32)) dc_X6_who_44 tw_281 ?_
            exact gh_iret dc_X6_who_46 hE rfl hw
theorem lk_X2_fittingNerves_10 {wd : gh_Wd} {x : gh_X} {Q : Int32 → gh_M → Prop} {t0 : Nat} (ht0 : t0 < 29) (hE : gh_E wd (gh_Qi Q) x)   : ∀ (n : Nat) (x2 : Int32) (x3 : Int32) (x4 : Int32) (x5 : Int32) (x6 : Int32) (M : gh_M), wl_X2_fittingNerves_10 t0 Q n x2 x3 x4 x5 x6 M → gh_J mi_X2_fittingNerves 6 wd x M 10 [some (vR 24 0), some (vR 6 t0), some (vI x2), some (vI x3), some (vI x4), some (vI x5), some (vI x6)] [] := by
  intro n
  induction n with
  | zero => intro x2 x3 x4 x5 x6 M hw; exact hw.elim
  | succ n ih =>
    intro x2 x3 x4 x5 x6 M hw
    unfold wl_X2_fittingNerves_10 at hw
    refine gh_iload dc_X2_fittingNerves_10 rfl ?_
    refine gh_bipush (v := (nI 60)) dc_X2_fittingNerves_12 gb_60 ?_
    refine gh_icmp_gt (tgt := 69) dc_X2_fittingNerves_14 rfl (fun c1 => ?_) (fun c1 => ?_)
    · replace hw := hw.1 c1
      refine gh_iload_n dc_X2_fittingNerves_69 rfl ?_
      refine gh_if_ne (tgt := 78) dc_X2_fittingNerves_70 rfl (fun c2 => ?_) (fun c2 => ?_)
      · replace hw := hw.1 c2
        refine gh_iload dc_X2_fittingNerves_78 rfl ?_
        exact gh_iret dc_X2_fittingNerves_80 hE rfl hw
      · replace hw := hw.2 c2
        refine gh_iload dc_X2_fittingNerves_73 rfl ?_
        refine gh_goto (tgt := 80) dc_X2_fittingNerves_75 rfl ?_
        exact gh_iret dc_X2_fittingNerves_80 hE rfl hw
    · replace hw := hw.2 c1
      refine gh_aload_n dc_X2_fittingNerves_17 rfl ?_
      refine gh_getR (k := 24) (t := 0) dc_X2_fittingNerves_18 fl_RX2_12 (by decide) (by decide) rfl rfl ?_
      refine gh_aload_n dc_X2_fittingNerves_21 rfl ?_
      refine gh_callVv (mi' := mi_X5_copyFrom) (as := [vR 6 t0]) (S := []) (k := 6) (t := 28) dc_X2_fittingNerves_22 ml_RX2_38 ok_X5_copyFrom rfl rfl (by decide) (Nat.le_of_ble_eq_true rfl) (by decide) (by decide) rfl rfl (wk_X5_copyFrom (by decide) ht0 _ _ hw) (fun M4 hw => ?_)
      refine gh_aload_n dc_X2_fittingNerves_25 rfl ?_
      refine gh_getR (k := 24) (t := 0) dc_X2_fittingNerves_26 fl_RX2_12 (by decide) (by decide) rfl rfl ?_
      refine gh_getR (k := 6) (t := 28) dc_X2_fittingNerves_29 fl_RX2_123 (by decide) (by decide) rfl rfl ?_
      refine gh_iload_n dc_X2_fittingNerves_32 rfl ?_
      refine gh_iload dc_X2_fittingNerves_33 rfl ?_
      obtain ⟨h5, hw⟩ := hw
      refine gh_iast (k := 13) (t := 28) dc_X2_fittingNerves_35 rfl (by decide) (by decide) h5 ?_
      obtain ⟨M6, eM6⟩ : ∃ z, z = (gh_st M4 13 28 x2.toNatClampNeg x6) := ⟨_, rfl⟩
      rw [← eM6]
      replace hw := hw _ eM6
      refine gh_aload_n dc_X2_fittingNerves_36 rfl ?_
      refine gh_iload_n dc_X2_fittingNerves_37 rfl ?_
      refine gh_callVi (mi' := mi_X2_isAsTold) (as := [vI x2]) (S := []) (k := 24) (t := 0) dc_X2_fittingNerves_38 ml_RX2_165 ok_X2_isAsTold rfl rfl (by decide) (Nat.le_of_ble_eq_true rfl) (by decide) (by decide) rfl rfl (wk_X2_isAsTold _ _ _ hw) (fun r7 M8 hw => ?_)
      refine gh_if_eq (tgt := 63) dc_X2_fittingNerves_41 rfl (fun c9 => ?_) (fun c9 => ?_)
      · replace hw := hw.1 c9
        obtain ⟨y6_10, ey6_10⟩ : ∃ z, z = (x6 + (nI 1)) := ⟨_, rfl⟩
        replace hw := hw _ ey6_10
        refine gh_iinc (v := y6_10) (L' := [some (vR 24 0), some (vR 6 t0), some (vI x2), some (vI x3), some (vI x4), some (vI x5), some (vI y6_10)]) dc_X2_fittingNerves_63 rfl ((congrArg (fun z => x6 + z) gc_1).trans ey6_10.symm) (by decide) rfl rfl ?_
        refine gh_goto (tgt := 10) dc_X2_fittingNerves_66 rfl ?_
        refine gh_drop (pc' := 0) [some (vR 24 0), some (vR 6 t0), some (vI x2), some (vI x3), some (vI x4), some (vI x5), some (vI y6_10)] ⟨rfl, rfl, rfl, rfl, rfl, rfl, rfl, trivial⟩ ?_
        exact ih _ _ _ _ _ _ hw
      · replace hw := hw.2 c9
        obtain ⟨y4_11, ey4_11⟩ : ∃ z, z = (x4 + (nI 1)) := ⟨_, rfl⟩
        replace hw := hw _ ey4_11
        refine gh_iinc (v := y4_11) (L' := [some (vR 24 0), some (vR 6 t0), some (vI x2), some (vI x3), some (vI y4_11), some (vI x5), some (vI x6)]) dc_X2_fittingNerves_44 rfl ((congrArg (fun z => x4 + z) gc_1).trans ey4_11.symm) (by decide) rfl rfl ?_
        refine gh_iload dc_X2_fittingNerves_47 rfl ?_
        refine gh_ldc (v := (-1000000 : Int32)) dc_X2_fittingNerves_49 tw_572 ?_
        refine gh_icmp_ne (tgt := 59) dc_X2_fittingNerves_51 rfl (fun c12 => ?_) (fun c12 => ?_)
        · replace hw := hw.1 c12
          refine gh_iload dc_X2_fittingNerves_59 rfl ?_
          refine gh_istore (L' := [some (vR 24 0), some (vR 6 t0), some (vI x2), some (vI x3), some (vI y4_11), some (vI x5), some (vI x6)]) dc_X2_fittingNerves_61 (by decide) rfl rfl ?_
          obtain ⟨y6_13, ey6_13⟩ : ∃ z, z = (x6 + (nI 1)) := ⟨_, rfl⟩
          replace hw := hw _ ey6_13
          refine gh_iinc (v := y6_13) (L' := [some (vR 24 0), some (vR 6 t0), some (vI x2), some (vI x3), some (vI y4_11), some (vI x5), some (vI y6_13)]) dc_X2_fittingNerves_63 rfl ((congrArg (fun z => x6 + z) gc_1).trans ey6_13.symm) (by decide) rfl rfl ?_
          refine gh_goto (tgt := 10) dc_X2_fittingNerves_66 rfl ?_
          refine gh_drop (pc' := 0) [some (vR 24 0), some (vR 6 t0), some (vI x2), some (vI x3), some (vI y4_11), some (vI x5), some (vI y6_13)] ⟨rfl, rfl, rfl, rfl, rfl, rfl, rfl, trivial⟩ ?_
          exact ih _ _ _ _ _ _ hw
        · replace hw := hw.2 c12
          refine gh_iload dc_X2_fittingNerves_54 rfl ?_
          refine gh_goto (tgt := 61) dc_X2_fittingNerves_56 rfl ?_
          refine gh_istore (L' := [some (vR 24 0), some (vR 6 t0), some (vI x2), some (vI x3), some (vI y4_11), some (vI x6), some (vI x6)]) dc_X2_fittingNerves_61 (by decide) rfl rfl ?_
          obtain ⟨y6_14, ey6_14⟩ : ∃ z, z = (x6 + (nI 1)) := ⟨_, rfl⟩
          replace hw := hw _ ey6_14
          refine gh_iinc (v := y6_14) (L' := [some (vR 24 0), some (vR 6 t0), some (vI x2), some (vI x3), some (vI y4_11), some (vI x6), some (vI y6_14)]) dc_X2_fittingNerves_63 rfl ((congrArg (fun z => x6 + z) gc_1).trans ey6_14.symm) (by decide) rfl rfl ?_
          refine gh_goto (tgt := 10) dc_X2_fittingNerves_66 rfl ?_
          refine gh_drop (pc' := 0) [some (vR 24 0), some (vR 6 t0), some (vI x2), some (vI x3), some (vI y4_11), some (vI x6), some (vI y6_14)] ⟨rfl, rfl, rfl, rfl, rfl, rfl, rfl, trivial⟩ ?_
          exact ih _ _ _ _ _ _ hw
theorem wk_X2_fittingNerves {t0 : Nat} (ht0 : t0 < 29) (Q : Int32 → gh_M → Prop) (a0 : Int32) (a1 : Int32) (M : gh_M) (hw : wp_X2_fittingNerves t0 a0 a1 M Q) : gh_Calls 6 mi_X2_fittingNerves [vR 24 0, vR 6 t0, vI a0, vI a1] M (gh_Qi Q) := by
  refine gh_of (by decide) rfl 3 rfl (L0 := [some (vR 24 0), some (vR 6 t0), some (vI a0), some (vI a1), none, none, none]) rfl (fun wd x hE => ?_)
  unfold wp_X2_fittingNerves at hw
  refine gh_iconst (v := (nI 0)) dc_X2_fittingNerves_0 gc_0 ?_
  refine gh_istore (L' := [some (vR 24 0), some (vR 6 t0), some (vI a0), some (vI a1), some (vI (nI 0)), none, none]) dc_X2_fittingNerves_1 (by decide) rfl rfl ?_
  refine gh_ldc (v := (-1000000 : Int32)) dc_X2_fittingNerves_3 tw_572 ?_
  refine gh_istore (L' := [some (vR 24 0), some (vR 6 t0), some (vI a0), some (vI a1), some (vI (nI 0)), some (vI (-1000000 : Int32)), none]) dc_X2_fittingNerves_5 (by decide) rfl rfl ?_
  refine gh_iconst (v := (nI 1)) dc_X2_fittingNerves_7 gc_1 ?_
  refine gh_istore (L' := [some (vR 24 0), some (vR 6 t0), some (vI a0), some (vI a1), some (vI (nI 0)), some (vI (-1000000 : Int32)), some (vI (nI 1))]) dc_X2_fittingNerves_8 (by decide) rfl rfl ?_
  refine gh_drop (pc' := 0) [some (vR 24 0), some (vR 6 t0), some (vI a0), some (vI a1), some (vI (nI 0)), some (vI (-1000000 : Int32)), some (vI (nI 1))] ⟨rfl, rfl, rfl, rfl, rfl, rfl, rfl, trivial⟩ ?_
  obtain ⟨k, hw⟩ := hw
  exact lk_X2_fittingNerves_10 ht0 hE  k _ _ _ _ _ _ hw
theorem wk_X6_nerves   (Q : Int32 → gh_M → Prop) (a0 : Int32) (a1 : Int32) (a2 : Int32) (a3 : Int32) (a4 : Int32) (M : gh_M) (hw : wp_X6_nerves  a0 a1 a2 a3 a4 M Q) : gh_Calls 7 mi_X6_nerves [vR 0 0, vI a0, vI a1, vI a2, vI a3, vI a4] M (gh_Qi Q) := by
  refine gh_of (by decide) rfl 1 rfl (L0 := [some (vR 0 0), some (vI a0), some (vI a1), some (vI a2), some (vI a3), some (vI a4), none]) rfl (fun wd x hE => ?_)
  unfold wp_X6_nerves at hw
  refine gh_aload_n dc_X6_nerves_0 rfl ?_
  refine gh_iload_n dc_X6_nerves_1 rfl ?_
  refine gh_callVi (mi' := mi_X6_isCar) (as := [vI a0]) (S := []) (k := 0) (t := 0) dc_X6_nerves_2 ml_RX6_176 ok_X6_isCar rfl rfl (by decide) (Nat.le_of_ble_eq_true rfl) (by decide) (by decide) rfl rfl (wk_X6_isCar _ _ _ hw) (fun r1 M2 hw => ?_)
  refine gh_if_eq (tgt := 35) dc_X6_nerves_5 rfl (fun c3 => ?_) (fun c3 => ?_)
  · replace hw := hw.1 c3
    refine gh_ldc (v := (-1000001 : Int32)) dc_X6_nerves_35 tw_281 ?_
    exact gh_iret dc_X6_nerves_37 hE rfl hw
  · replace hw := hw.2 c3
    refine gh_iload_n dc_X6_nerves_8 rfl ?_
    refine gh_iconst (v := (nI 0)) dc_X6_nerves_9 gc_0 ?_
    refine gh_iconst (v := (nI 1)) dc_X6_nerves_10 gc_1 ?_
    refine gh_callSi (mi' := mi_X6_within) (as := [vI a1, vI (nI 0), vI (nI 1)]) (S := []) dc_X6_nerves_11 ml_RX6_62 ok_X6_within rfl rfl (by decide) (Nat.le_of_ble_eq_true rfl) (wk_X6_within _ _ _ _ _ hw) (fun r4 M5 hw => ?_)
    refine gh_if_eq (tgt := 35) dc_X6_nerves_14 rfl (fun c6 => ?_) (fun c6 => ?_)
    · replace hw := hw.1 c6
      refine gh_ldc (v := (-1000001 : Int32)) dc_X6_nerves_35 tw_281 ?_
      exact gh_iret dc_X6_nerves_37 hE rfl hw
    · replace hw := hw.2 c6
      refine gh_iload_n dc_X6_nerves_17 rfl ?_
      refine gh_callSi (mi' := mi_X6_isRow) (as := [vI a2]) (S := []) dc_X6_nerves_18 ml_RX6_58 ok_X6_isRow rfl rfl (by decide) (Nat.le_of_ble_eq_true rfl) (wk_X6_isRow _ _ _ hw) (fun r7 M8 hw => ?_)
      refine gh_if_eq (tgt := 35) dc_X6_nerves_21 rfl (fun c9 => ?_) (fun c9 => ?_)
      · replace hw := hw.1 c9
        refine gh_ldc (v := (-1000001 : Int32)) dc_X6_nerves_35 tw_281 ?_
        exact gh_iret dc_X6_nerves_37 hE rfl hw
      · replace hw := hw.2 c9
        refine gh_iload dc_X6_nerves_24 rfl ?_
        refine gh_iconst (v := (nI 1)) dc_X6_nerves_26 gc_1 ?_
        refine gh_bipush (v := (nI 12)) dc_X6_nerves_27 gb_12 ?_
        refine gh_callSi (mi' := mi_X6_within) (as := [vI a4, vI (nI 1), vI (nI 12)]) (S := []) dc_X6_nerves_29 ml_RX6_62 ok_X6_within rfl rfl (by decide) (Nat.le_of_ble_eq_true rfl) (wk_X6_within _ _ _ _ _ hw) (fun r10 M11 hw => ?_)
        refine gh_if_ne (tgt := 38) dc_X6_nerves_32 rfl (fun c12 => ?_) (fun c12 => ?_)
        · replace hw := hw.1 c12
          refine gh_aload_n dc_X6_nerves_38 rfl ?_
          refine gh_getR (k := 0) (t := 0) dc_X6_nerves_39 fl_RX6_11 (by decide) (by decide) rfl rfl ?_
          refine gh_iload_n dc_X6_nerves_42 rfl ?_
          obtain ⟨h13, hw⟩ := hw
          refine gh_aald (k := 1) (t := 0) (a := 0) dc_X6_nerves_43 rfl (by decide) (by decide) (by decide) h13 rfl ?_
          have bj14 := gh_cl h13
          obtain ⟨j14, ej14⟩ : ∃ z, a2.toNatClampNeg = z := ⟨_, rfl⟩
          rw [ej14]
          rw [ej14] at bj14
          replace hw := hw _ bj14 ej14
          refine gh_iload dc_X6_nerves_44 rfl ?_
          refine gh_iload dc_X6_nerves_46 rfl ?_
          refine gh_callSi (mi' := mi_X6_findingIn) (as := [vR 2 j14, vI a3, vI a4]) (S := []) dc_X6_nerves_48 ml_RX6_286 ok_X6_findingIn rfl rfl (by decide) (Nat.le_of_ble_eq_true rfl) (wk_X6_findingIn (show j14 < 8 by omega) _ _ _ _ hw) (fun r15 M16 hw => ?_)
          refine gh_istore (L' := [some (vR 0 0), some (vI a0), some (vI a1), some (vI a2), some (vI a3), some (vI a4), some (vI r15)]) dc_X6_nerves_51 (by decide) rfl rfl ?_
          refine gh_iload dc_X6_nerves_53 rfl ?_
          refine gh_if_eq (tgt := 65) dc_X6_nerves_55 rfl (fun c17 => ?_) (fun c17 => ?_)
          · replace hw := hw.1 c17
            refine gh_aload_n dc_X6_nerves_65 rfl ?_
            refine gh_getR (k := 0) (t := 0) dc_X6_nerves_66 fl_RX6_46 (by decide) (by decide) rfl rfl ?_
            refine gh_aload_n dc_X6_nerves_69 rfl ?_
            refine gh_getR (k := 0) (t := 0) dc_X6_nerves_70 fl_RX6_11 (by decide) (by decide) rfl rfl ?_
            refine gh_iload_n dc_X6_nerves_73 rfl ?_
            obtain ⟨h18, hw⟩ := hw
            refine gh_aald (k := 1) (t := 0) (a := 0) dc_X6_nerves_74 rfl (by decide) (by decide) (by decide) h18 rfl ?_
            have bj19 := gh_cl h18
            obtain ⟨j19, ej19⟩ : ∃ z, a2.toNatClampNeg = z := ⟨_, rfl⟩
            rw [ej19]
            rw [ej19] at bj19
            replace hw := hw _ bj19 ej19
            refine gh_iload dc_X6_nerves_75 rfl ?_
            refine gh_iload dc_X6_nerves_77 rfl ?_
            refine gh_callVv (mi' := mi_X2_hear) (as := [vR 2 j19, vI a3, vI a4]) (S := []) (k := 24) (t := 0) dc_X6_nerves_79 ml_RX6_290 ok_X2_hear rfl rfl (by decide) (Nat.le_of_ble_eq_true rfl) (by decide) (by decide) rfl rfl (wk_X2_hear (show j19 < 8 by omega) _ _ _ _ hw) (fun M21 hw => ?_)
            refine gh_aload_n dc_X6_nerves_82 rfl ?_
            refine gh_aload_n dc_X6_nerves_83 rfl ?_
            refine gh_getR (k := 0) (t := 0) dc_X6_nerves_84 fl_RX6_46 (by decide) (by decide) rfl rfl ?_
            refine gh_aload_n dc_X6_nerves_87 rfl ?_
            refine gh_getR (k := 0) (t := 0) dc_X6_nerves_88 fl_RX6_25 (by decide) (by decide) rfl rfl ?_
            refine gh_iload_n dc_X6_nerves_91 rfl ?_
            refine gh_iload_n dc_X6_nerves_92 rfl ?_
            refine gh_callVi (mi' := mi_X2_fittingNerves) (as := [vR 6 0, vI a0, vI a1]) (S := [vR 0 0]) (k := 24) (t := 0) dc_X6_nerves_93 ml_RX6_297 ok_X2_fittingNerves rfl rfl (by decide) (Nat.le_of_ble_eq_true rfl) (by decide) (by decide) rfl rfl (wk_X2_fittingNerves (by decide) _ _ _ _ hw) (fun r22 M23 hw => ?_)
            refine gh_callVi (mi' := mi_X6_fine) (as := [vI r22]) (S := []) (k := 0) (t := 0) dc_X6_nerves_96 ml_RX6_75 ok_X6_fine rfl rfl (by decide) (Nat.le_of_ble_eq_true rfl) (by decide) (by decide) rfl rfl (wk_X6_fine _ _ _ hw) (fun r24 M25 hw => ?_)
            exact gh_iret dc_X6_nerves_99 hE rfl hw
          · replace hw := hw.2 c17
            refine gh_aload_n dc_X6_nerves_58 rfl ?_
            refine gh_iload dc_X6_nerves_59 rfl ?_
            refine gh_callVi (mi' := mi_X6_found) (as := [vI r15]) (S := []) (k := 0) (t := 0) dc_X6_nerves_61 ml_RX6_67 ok_X6_found rfl rfl (by decide) (Nat.le_of_ble_eq_true rfl) (by decide) (by decide) rfl rfl (wk_X6_found _ _ _ hw) (fun r26 M27 hw => ?_)
            exact gh_iret dc_X6_nerves_64 hE rfl hw
        · replace hw := hw.2 c12
          refine gh_ldc (v := (-1000001 : Int32)) dc_X6_nerves_35 tw_281 ?_
          exact gh_iret dc_X6_nerves_37 hE rfl hw
theorem lk_X2_commonDivisor_9 {wd : gh_Wd} {x : gh_X} {Q : Int64 → gh_M → Prop}   (hE : gh_E wd (gh_Ql Q) x)   : ∀ (n : Nat) (x4 : Int64) (x6 : Int64) (x8 : Int32) (M : gh_M), wl_X2_commonDivisor_9 Q n x4 x6 x8 M → gh_J mi_X2_commonDivisor 1 wd x M 9 [none, none, none, none, some (vL x4), none, some (vL x6), none, some (vI x8), none, none] [] := by
  intro n
  induction n with
  | zero => intro x4 x6 x8 M hw; exact hw.elim
  | succ n ih =>
    intro x4 x6 x8 M hw
    unfold wl_X2_commonDivisor_9 at hw
    refine gh_iload dc_X2_commonDivisor_9 rfl ?_
    refine gh_bipush (v := (nI 100)) dc_X2_commonDivisor_11 gb_100 ?_
    refine gh_icmp_ge (tgt := 44) dc_X2_commonDivisor_13 rfl (fun c1 => ?_) (fun c1 => ?_)
    · replace hw := hw.1 c1
      refine gh_lload dc_X2_commonDivisor_44 rfl ?_
      exact gh_lret dc_X2_commonDivisor_46 hE rfl hw
    · replace hw := hw.2 c1
      refine gh_lload dc_X2_commonDivisor_16 rfl ?_
      refine gh_lconst (v := lN 0) dc_X2_commonDivisor_18 gl_0 ?_
      refine gh_lcmp dc_X2_commonDivisor_19 ?_
      refine gh_if_eq (tgt := 44) dc_X2_commonDivisor_20 rfl (fun c2 => ?_) (fun c2 => ?_)
      · replace hw := hw.1 c2
        refine gh_lload dc_X2_commonDivisor_44 rfl ?_
        exact gh_lret dc_X2_commonDivisor_46 hE rfl hw
      · replace hw := hw.2 c2
        refine gh_lload dc_X2_commonDivisor_23 rfl ?_
        refine gh_lload dc_X2_commonDivisor_25 rfl ?_
        obtain ⟨h3, hw⟩ := hw
        refine gh_lrem dc_X2_commonDivisor_27 h3 ?_
        obtain ⟨y9_4, ey9_4⟩ : ∃ z, z = (x4 - x4 / x6 * x6) := ⟨_, rfl⟩
        rw [← ey9_4]
        replace hw := hw _ ey9_4
        refine gh_lstore (L' := [none, none, none, none, some (vL x4), none, some (vL x6), none, some (vI x8), some (vL y9_4), none]) dc_X2_commonDivisor_28 (by decide) rfl rfl ?_
        refine gh_lload dc_X2_commonDivisor_30 rfl ?_
        refine gh_lstore (L' := [none, none, none, none, some (vL x6), none, some (vL x6), none, some (vI x8), some (vL y9_4), none]) dc_X2_commonDivisor_32 (by decide) rfl rfl ?_
        refine gh_lload dc_X2_commonDivisor_34 rfl ?_
        refine gh_lstore (L' := [none, none, none, none, some (vL x6), none, some (vL y9_4), none, some (vI x8), some (vL y9_4), none]) dc_X2_commonDivisor_36 (by decide) rfl rfl ?_
        obtain ⟨y8_5, ey8_5⟩ : ∃ z, z = (x8 + (nI 1)) := ⟨_, rfl⟩
        replace hw := hw _ ey8_5
        refine gh_iinc (v := y8_5) (L' := [none, none, none, none, some (vL x6), none, some (vL y9_4), none, some (vI y8_5), some (vL y9_4), none]) dc_X2_commonDivisor_38 rfl ((congrArg (fun z => x8 + z) gc_1).trans ey8_5.symm) (by decide) rfl rfl ?_
        refine gh_goto (tgt := 9) dc_X2_commonDivisor_41 rfl ?_
        refine gh_drop (pc' := 0) [none, none, none, none, some (vL x6), none, some (vL y9_4), none, some (vI y8_5), none, none] ⟨rfl, rfl, rfl, trivial⟩ ?_
        exact ih _ _ _ _ hw
theorem wk_X2_commonDivisor   (Q : Int64 → gh_M → Prop) (a0 : Int64) (a1 : Int64) (M : gh_M) (hw : wp_X2_commonDivisor  a0 a1 M Q) : gh_Calls 1 mi_X2_commonDivisor [vL a0, vL a1] M (gh_Ql Q) := by
  refine gh_of (by decide) rfl 7 rfl (L0 := [some (vL a0), none, some (vL a1), none, none, none, none, none, none, none, none]) rfl (fun wd x hE => ?_)
  unfold wp_X2_commonDivisor at hw
  refine gh_lload_n dc_X2_commonDivisor_0 rfl ?_
  refine gh_lstore (L' := [some (vL a0), none, some (vL a1), none, some (vL a0), none, none, none, none, none, none]) dc_X2_commonDivisor_1 (by decide) rfl rfl ?_
  refine gh_lload_n dc_X2_commonDivisor_3 rfl ?_
  refine gh_lstore (L' := [some (vL a0), none, some (vL a1), none, some (vL a0), none, some (vL a1), none, none, none, none]) dc_X2_commonDivisor_4 (by decide) rfl rfl ?_
  refine gh_iconst (v := (nI 0)) dc_X2_commonDivisor_6 gc_0 ?_
  refine gh_istore (L' := [some (vL a0), none, some (vL a1), none, some (vL a0), none, some (vL a1), none, some (vI (nI 0)), none, none]) dc_X2_commonDivisor_7 (by decide) rfl rfl ?_
  refine gh_drop (pc' := 0) [none, none, none, none, some (vL a0), none, some (vL a1), none, some (vI (nI 0)), none, none] ⟨rfl, rfl, rfl, trivial⟩ ?_
  obtain ⟨k, hw⟩ := hw
  exact lk_X2_commonDivisor_9  hE  k _ _ _ _ hw
theorem lk_X2_power_5 {wd : gh_Wd} {x : gh_X} {Q : Int64 → gh_M → Prop}   (hE : gh_E wd (gh_Ql Q) x)   : ∀ (n : Nat) (x0 : Int64) (x2 : Int32) (x3 : Int64) (x5 : Int32) (M : gh_M), wl_X2_power_5 Q n x0 x2 x3 x5 M → gh_J mi_X2_power 1 wd x M 5 [some (vL x0), none, some (vI x2), some (vL x3), none, some (vI x5)] [] := by
  intro n
  induction n with
  | zero => intro x0 x2 x3 x5 M hw; exact hw.elim
  | succ n ih =>
    intro x0 x2 x3 x5 M hw
    unfold wl_X2_power_5 at hw
    refine gh_iload dc_X2_power_5 rfl ?_
    refine gh_iload_n dc_X2_power_7 rfl ?_
    refine gh_icmp_ge (tgt := 21) dc_X2_power_8 rfl (fun c2 => ?_) (fun c2 => ?_)
    · replace hw := hw.1 c2
      refine gh_lload_n dc_X2_power_21 rfl ?_
      exact gh_lret dc_X2_power_22 hE rfl hw
    · replace hw := hw.2 c2
      refine gh_lload_n dc_X2_power_11 rfl ?_
      refine gh_lload_n dc_X2_power_12 rfl ?_
      refine gh_lmul dc_X2_power_13 ?_
      obtain ⟨y3_3, ey3_3⟩ : ∃ z, z = (x3 * x0) := ⟨_, rfl⟩
      rw [← ey3_3]
      replace hw := hw _ ey3_3
      refine gh_lstore_n (L' := [some (vL x0), none, some (vI x2), some (vL y3_3), none, some (vI x5)]) dc_X2_power_14 (by decide) rfl rfl ?_
      obtain ⟨y5_4, ey5_4⟩ : ∃ z, z = (x5 + (nI 1)) := ⟨_, rfl⟩
      replace hw := hw _ ey5_4
      refine gh_iinc (v := y5_4) (L' := [some (vL x0), none, some (vI x2), some (vL y3_3), none, some (vI y5_4)]) dc_X2_power_15 rfl ((congrArg (fun z => x5 + z) gc_1).trans ey5_4.symm) (by decide) rfl rfl ?_
      refine gh_goto (tgt := 5) dc_X2_power_18 rfl ?_
      refine gh_drop (pc' := 0) [some (vL x0), none, some (vI x2), some (vL y3_3), none, some (vI y5_4)] ⟨rfl, rfl, rfl, rfl, trivial⟩ ?_
      exact ih _ _ _ _ _ hw
theorem wk_X2_power   (Q : Int64 → gh_M → Prop) (a0 : Int64) (a1 : Int32) (M : gh_M) (hw : wp_X2_power  a0 a1 M Q) : gh_Calls 1 mi_X2_power [vL a0, vI a1] M (gh_Ql Q) := by
  refine gh_of (by decide) rfl 3 rfl (L0 := [some (vL a0), none, some (vI a1), none, none, none]) rfl (fun wd x hE => ?_)
  unfold wp_X2_power at hw
  refine gh_lconst (v := lN 1) dc_X2_power_0 gl_1 ?_
  obtain ⟨y3_1, ey3_1⟩ : ∃ z, z = (lN 1) := ⟨_, rfl⟩
  rw [← ey3_1]
  replace hw := hw _ ey3_1
  refine gh_lstore_n (L' := [some (vL a0), none, some (vI a1), some (vL y3_1), none, none]) dc_X2_power_1 (by decide) rfl rfl ?_
  refine gh_iconst (v := (nI 0)) dc_X2_power_2 gc_0 ?_
  refine gh_istore (L' := [some (vL a0), none, some (vI a1), some (vL y3_1), none, some (vI (nI 0))]) dc_X2_power_3 (by decide) rfl rfl ?_
  refine gh_drop (pc' := 0) [some (vL a0), none, some (vI a1), some (vL y3_1), none, some (vI (nI 0))] ⟨rfl, rfl, rfl, rfl, trivial⟩ ?_
  obtain ⟨k, hw⟩ := hw
  exact lk_X2_power_5  hE  k _ _ _ _ _ hw
theorem lk_X2_screamsIfFailing_15 {wd : gh_Wd} {x : gh_X} {Q : Int64 → gh_M → Prop} {t0 : Nat} (ht0 : t0 < 29) (hE : gh_E wd (gh_Ql Q) x)   : ∀ (n : Nat) (x2 : Int32) (x3 : Int32) (x4 : Int32) (x5 : Int32) (x6 : Int32) (x7 : Int64) (x9 : Int64) (x11 : Int32) (M : gh_M), wl_X2_screamsIfFailing_15 t0 Q n x2 x3 x4 x5 x6 x7 x9 x11 M → gh_J mi_X2_screamsIfFailing 6 wd x M 15 [some (vR 24 0), some (vR 6 t0), some (vI x2), some (vI x3), some (vI x4), some (vI x5), some (vI x6), some (vL x7), none, some (vL x9), none, some (vI x11), none, none, none] [] := by
  intro n
  induction n with
  | zero => intro x2 x3 x4 x5 x6 x7 x9 x11 M hw; exact hw.elim
  | succ n ih =>
    intro x2 x3 x4 x5 x6 x7 x9 x11 M hw
    unfold wl_X2_screamsIfFailing_15 at hw
    refine gh_iload dc_X2_screamsIfFailing_15 rfl ?_
    refine gh_iconst (v := (nI 1)) dc_X2_screamsIfFailing_17 gc_1 ?_
    refine gh_aload_n dc_X2_screamsIfFailing_18 rfl ?_
    refine gh_getI (k := 6) (t := t0) dc_X2_screamsIfFailing_19 fl_RX2_113 (by decide) ht0 rfl rfl ?_
    refine gh_ishl dc_X2_screamsIfFailing_22 ?_
    refine gh_icmp_ge (tgt := 143) dc_X2_screamsIfFailing_23 rfl (fun c5 => ?_) (fun c5 => ?_)
    · replace hw := hw.1 c5
      refine gh_lload dc_X2_screamsIfFailing_143 rfl ?_
      refine gh_lload dc_X2_screamsIfFailing_145 rfl ?_
      refine gh_callSl (mi' := mi_X2_commonDivisor) (as := [vL x7, vL x9]) (S := []) dc_X2_screamsIfFailing_147 ml_RX2_175 ok_X2_commonDivisor rfl rfl (by decide) (Nat.le_of_ble_eq_true rfl) (wk_X2_commonDivisor _ _ _ _ hw) (fun r6 M7 hw => ?_)
      refine gh_lstore (L' := [some (vR 24 0), some (vR 6 t0), some (vI x2), some (vI x3), some (vI x4), some (vI x5), some (vI x6), some (vL x7), none, some (vL x9), none, some (vL r6), none, none, none]) dc_X2_screamsIfFailing_150 (by decide) rfl rfl ?_
      refine gh_lload dc_X2_screamsIfFailing_152 rfl ?_
      refine gh_lconst (v := lN 0) dc_X2_screamsIfFailing_154 gl_0 ?_
      refine gh_lcmp dc_X2_screamsIfFailing_155 ?_
      refine gh_if_ne (tgt := 161) dc_X2_screamsIfFailing_156 rfl (fun c8 => ?_) (fun c8 => ?_)
      · replace hw := hw.1 c8
        refine gh_iload dc_X2_screamsIfFailing_161 rfl ?_
        refine gh_if_ne (tgt := 171) dc_X2_screamsIfFailing_163 rfl (fun c9 => ?_) (fun c9 => ?_)
        · replace hw := hw.1 c9
          refine gh_lload dc_X2_screamsIfFailing_171 rfl ?_
          refine gh_lload dc_X2_screamsIfFailing_173 rfl ?_
          obtain ⟨h10, hw⟩ := hw
          refine gh_ldiv dc_X2_screamsIfFailing_175 h10 ?_
          exact gh_lret dc_X2_screamsIfFailing_176 hE rfl hw
        · replace hw := hw.2 c9
          refine gh_lload dc_X2_screamsIfFailing_166 rfl ?_
          refine gh_goto (tgt := 173) dc_X2_screamsIfFailing_168 rfl ?_
          refine gh_lload dc_X2_screamsIfFailing_173 rfl ?_
          obtain ⟨h11, hw⟩ := hw
          refine gh_ldiv dc_X2_screamsIfFailing_175 h11 ?_
          exact gh_lret dc_X2_screamsIfFailing_176 hE rfl hw
      · replace hw := hw.2 c8
        refine gh_lconst (v := lN 0) dc_X2_screamsIfFailing_159 gl_0 ?_
        exact gh_lret dc_X2_screamsIfFailing_160 hE rfl hw
    · replace hw := hw.2 c5
      refine gh_iload dc_X2_screamsIfFailing_26 rfl ?_
      refine gh_iload dc_X2_screamsIfFailing_28 rfl ?_
      refine gh_iand dc_X2_screamsIfFailing_30 ?_
      refine gh_iload dc_X2_screamsIfFailing_31 rfl ?_
      refine gh_icmp_ne (tgt := 137) dc_X2_screamsIfFailing_33 rfl (fun c12 => ?_) (fun c12 => ?_)
      · replace hw := hw.1 c12
        obtain ⟨y11_13, ey11_13⟩ : ∃ z, z = (x11 + (nI 1)) := ⟨_, rfl⟩
        replace hw := hw _ ey11_13
        refine gh_iinc (v := y11_13) (L' := [some (vR 24 0), some (vR 6 t0), some (vI x2), some (vI x3), some (vI x4), some (vI x5), some (vI x6), some (vL x7), none, some (vL x9), none, some (vI y11_13), none, none, none]) dc_X2_screamsIfFailing_137 rfl ((congrArg (fun z => x11 + z) gc_1).trans ey11_13.symm) (by decide) rfl rfl ?_
        refine gh_goto (tgt := 15) dc_X2_screamsIfFailing_140 rfl ?_
        refine gh_drop (pc' := 0) [some (vR 24 0), some (vR 6 t0), some (vI x2), some (vI x3), some (vI x4), some (vI x5), some (vI x6), some (vL x7), none, some (vL x9), none, some (vI y11_13), none, none, none] ⟨rfl, rfl, rfl, rfl, rfl, rfl, rfl, rfl, rfl, rfl, trivial⟩ ?_
        exact ih _ _ _ _ _ _ _ _ _ hw
      · replace hw := hw.2 c12
        refine gh_aload_n dc_X2_screamsIfFailing_36 rfl ?_
        refine gh_getR (k := 24) (t := 0) dc_X2_screamsIfFailing_37 fl_RX2_12 (by decide) (by decide) rfl rfl ?_
        refine gh_aload_n dc_X2_screamsIfFailing_40 rfl ?_
        refine gh_callVv (mi' := mi_X5_copyFrom) (as := [vR 6 t0]) (S := []) (k := 6) (t := 28) dc_X2_screamsIfFailing_41 ml_RX2_38 ok_X5_copyFrom rfl rfl (by decide) (Nat.le_of_ble_eq_true rfl) (by decide) (by decide) rfl rfl (wk_X5_copyFrom (by decide) ht0 _ _ hw) (fun M15 hw => ?_)
        refine gh_aload_n dc_X2_screamsIfFailing_44 rfl ?_
        refine gh_getR (k := 24) (t := 0) dc_X2_screamsIfFailing_45 fl_RX2_12 (by decide) (by decide) rfl rfl ?_
        refine gh_iload dc_X2_screamsIfFailing_48 rfl ?_
        refine gh_iload dc_X2_screamsIfFailing_50 rfl ?_
        refine gh_iconst (v := (-1 : Int32)) dc_X2_screamsIfFailing_52 gc_m1 ?_
        refine gh_ixor dc_X2_screamsIfFailing_53 ?_
        refine gh_iand dc_X2_screamsIfFailing_54 ?_
        refine gh_callVv (mi' := mi_X5_switchTo) (as := [vI (x6 &&& (x11 ^^^ (-1 : Int32)))]) (S := []) (k := 6) (t := 28) dc_X2_screamsIfFailing_55 ml_RX2_120 ok_X5_switchTo rfl rfl (by decide) (Nat.le_of_ble_eq_true rfl) (by decide) (by decide) rfl rfl (wk_X5_switchTo (by decide) _ _ _ hw) (fun M17 hw => ?_)
        refine gh_aload_n dc_X2_screamsIfFailing_58 rfl ?_
        refine gh_getR (k := 24) (t := 0) dc_X2_screamsIfFailing_59 fl_RX2_12 (by decide) (by decide) rfl rfl ?_
        refine gh_iload_n dc_X2_screamsIfFailing_62 rfl ?_
        refine gh_callVv (mi' := mi_X5_tickOnFor) (as := [vI x3]) (S := []) (k := 6) (t := 28) dc_X2_screamsIfFailing_63 ml_RX2_42 ok_X5_tickOnFor rfl rfl (by decide) (Nat.le_of_ble_eq_true rfl) (by decide) (by decide) rfl rfl (wk_X5_tickOnFor (by decide) _ _ _ hw) (fun M19 hw => ?_)
        refine gh_iload dc_X2_screamsIfFailing_66 rfl ?_
        refine gh_callSi (mi' := mi_J6_bitCount_0f7a4) (as := [vI x11]) (S := []) dc_X2_screamsIfFailing_68 ml_RX2_87 ok_J6_bitCount_0f7a4 rfl rfl (by decide) (Nat.le_of_ble_eq_true rfl) (wk_J6_bitCount_0f7a4 _ _ _ hw) (fun r20 M21 hw => ?_)
        refine gh_istore (L' := [some (vR 24 0), some (vR 6 t0), some (vI x2), some (vI x3), some (vI x4), some (vI x5), some (vI x6), some (vL x7), none, some (vL x9), none, some (vI x11), some (vI r20), none, none]) dc_X2_screamsIfFailing_71 (by decide) rfl rfl ?_
        refine gh_iload dc_X2_screamsIfFailing_73 rfl ?_
        refine gh_i2l dc_X2_screamsIfFailing_75 ?_
        refine gh_iload dc_X2_screamsIfFailing_76 rfl ?_
        refine gh_callSl (mi' := mi_X2_power) (as := [vL x4.toInt64, vI r20]) (S := []) dc_X2_screamsIfFailing_78 ml_RX2_172 ok_X2_power rfl rfl (by decide) (Nat.le_of_ble_eq_true rfl) (wk_X2_power _ _ _ _ hw) (fun r22 M23 hw => ?_)
        refine gh_bipush (v := (nI 10)) dc_X2_screamsIfFailing_81 gb_10 ?_
        refine gh_iload dc_X2_screamsIfFailing_83 rfl ?_
        refine gh_isub dc_X2_screamsIfFailing_85 ?_
        refine gh_i2l dc_X2_screamsIfFailing_86 ?_
        refine gh_iload dc_X2_screamsIfFailing_87 rfl ?_
        refine gh_callSi (mi' := mi_J6_bitCount_0f7a4) (as := [vI x6]) (S := [vL ((nI 10) - x4).toInt64, vL r22]) dc_X2_screamsIfFailing_89 ml_RX2_87 ok_J6_bitCount_0f7a4 rfl rfl (by decide) (Nat.le_of_ble_eq_true rfl) (wk_J6_bitCount_0f7a4 _ _ _ hw) (fun r24 M25 hw => ?_)
        refine gh_iload dc_X2_screamsIfFailing_92 rfl ?_
        refine gh_isub dc_X2_screamsIfFailing_94 ?_
        refine gh_callSl (mi' := mi_X2_power) (as := [vL ((nI 10) - x4).toInt64, vI (r24 - r20)]) (S := [vL r22]) dc_X2_screamsIfFailing_95 ml_RX2_172 ok_X2_power rfl rfl (by decide) (Nat.le_of_ble_eq_true rfl) (wk_X2_power _ _ _ _ hw) (fun r26 M27 hw => ?_)
        refine gh_lmul dc_X2_screamsIfFailing_98 ?_
        obtain ⟨y13_28, ey13_28⟩ : ∃ z, z = (r22 * r26) := ⟨_, rfl⟩
        rw [← ey13_28]
        replace hw := hw _ ey13_28
        refine gh_lstore (L' := [some (vR 24 0), some (vR 6 t0), some (vI x2), some (vI x3), some (vI x4), some (vI x5), some (vI x6), some (vL x7), none, some (vL x9), none, some (vI x11), some (vI r20), some (vL y13_28), none]) dc_X2_screamsIfFailing_99 (by decide) rfl rfl ?_
        refine gh_lload dc_X2_screamsIfFailing_101 rfl ?_
        refine gh_lload dc_X2_screamsIfFailing_103 rfl ?_
        refine gh_ladd dc_X2_screamsIfFailing_105 ?_
        obtain ⟨y9_29, ey9_29⟩ : ∃ z, z = (x9 + y13_28) := ⟨_, rfl⟩
        rw [← ey9_29]
        replace hw := hw _ ey9_29
        refine gh_lstore (L' := [some (vR 24 0), some (vR 6 t0), some (vI x2), some (vI x3), some (vI x4), some (vI x5), some (vI x6), some (vL x7), none, some (vL y9_29), none, some (vI x11), some (vI r20), some (vL y13_28), none]) dc_X2_screamsIfFailing_106 (by decide) rfl rfl ?_
        refine gh_lload dc_X2_screamsIfFailing_108 rfl ?_
        refine gh_aload_n dc_X2_screamsIfFailing_110 rfl ?_
        refine gh_getR (k := 24) (t := 0) dc_X2_screamsIfFailing_111 fl_RX2_12 (by decide) (by decide) rfl rfl ?_
        refine gh_getR (k := 6) (t := 28) dc_X2_screamsIfFailing_114 fl_RX2_46 (by decide) (by decide) rfl rfl ?_
        refine gh_iload_n dc_X2_screamsIfFailing_117 rfl ?_
        obtain ⟨h30, hw⟩ := hw
        refine gh_iald (k := 17) (t := 28) dc_X2_screamsIfFailing_118 rfl (by decide) (by decide) h30 ?_
        refine gh_aload_n dc_X2_screamsIfFailing_119 rfl ?_
        refine gh_getR (k := 6) (t := t0) dc_X2_screamsIfFailing_120 fl_RX2_46 (by decide) ht0 rfl rfl ?_
        refine gh_iload_n dc_X2_screamsIfFailing_123 rfl ?_
        obtain ⟨h31, hw⟩ := hw
        refine gh_iald (k := 17) (t := t0) dc_X2_screamsIfFailing_124 rfl (by decide) ht0 h31 ?_
        refine gh_icmp_le (tgt := 133) dc_X2_screamsIfFailing_125 rfl (fun c32 => ?_) (fun c32 => ?_)
        · replace hw := hw.1 c32
          refine gh_lconst (v := lN 0) dc_X2_screamsIfFailing_133 gl_0 ?_
          refine gh_ladd dc_X2_screamsIfFailing_134 ?_
          obtain ⟨y7_33, ey7_33⟩ : ∃ z, z = (x7 + (lN 0)) := ⟨_, rfl⟩
          rw [← ey7_33]
          replace hw := hw _ ey7_33
          refine gh_lstore (L' := [some (vR 24 0), some (vR 6 t0), some (vI x2), some (vI x3), some (vI x4), some (vI x5), some (vI x6), some (vL y7_33), none, some (vL y9_29), none, some (vI x11), some (vI r20), some (vL y13_28), none]) dc_X2_screamsIfFailing_135 (by decide) rfl rfl ?_
          obtain ⟨y11_34, ey11_34⟩ : ∃ z, z = (x11 + (nI 1)) := ⟨_, rfl⟩
          replace hw := hw _ ey11_34
          refine gh_iinc (v := y11_34) (L' := [some (vR 24 0), some (vR 6 t0), some (vI x2), some (vI x3), some (vI x4), some (vI x5), some (vI x6), some (vL y7_33), none, some (vL y9_29), none, some (vI y11_34), some (vI r20), some (vL y13_28), none]) dc_X2_screamsIfFailing_137 rfl ((congrArg (fun z => x11 + z) gc_1).trans ey11_34.symm) (by decide) rfl rfl ?_
          refine gh_goto (tgt := 15) dc_X2_screamsIfFailing_140 rfl ?_
          refine gh_drop (pc' := 0) [some (vR 24 0), some (vR 6 t0), some (vI x2), some (vI x3), some (vI x4), some (vI x5), some (vI x6), some (vL y7_33), none, some (vL y9_29), none, some (vI y11_34), none, none, none] ⟨rfl, rfl, rfl, rfl, rfl, rfl, rfl, rfl, rfl, rfl, trivial⟩ ?_
          exact ih _ _ _ _ _ _ _ _ _ hw
        · replace hw := hw.2 c32
          refine gh_lload dc_X2_screamsIfFailing_128 rfl ?_
          refine gh_goto (tgt := 134) dc_X2_screamsIfFailing_130 rfl ?_
          refine gh_ladd dc_X2_screamsIfFailing_134 ?_
          obtain ⟨y7_35, ey7_35⟩ : ∃ z, z = (x7 + y13_28) := ⟨_, rfl⟩
          rw [← ey7_35]
          replace hw := hw _ ey7_35
          refine gh_lstore (L' := [some (vR 24 0), some (vR 6 t0), some (vI x2), some (vI x3), some (vI x4), some (vI x5), some (vI x6), some (vL y7_35), none, some (vL y9_29), none, some (vI x11), some (vI r20), some (vL y13_28), none]) dc_X2_screamsIfFailing_135 (by decide) rfl rfl ?_
          obtain ⟨y11_36, ey11_36⟩ : ∃ z, z = (x11 + (nI 1)) := ⟨_, rfl⟩
          replace hw := hw _ ey11_36
          refine gh_iinc (v := y11_36) (L' := [some (vR 24 0), some (vR 6 t0), some (vI x2), some (vI x3), some (vI x4), some (vI x5), some (vI x6), some (vL y7_35), none, some (vL y9_29), none, some (vI y11_36), some (vI r20), some (vL y13_28), none]) dc_X2_screamsIfFailing_137 rfl ((congrArg (fun z => x11 + z) gc_1).trans ey11_36.symm) (by decide) rfl rfl ?_
          refine gh_goto (tgt := 15) dc_X2_screamsIfFailing_140 rfl ?_
          refine gh_drop (pc' := 0) [some (vR 24 0), some (vR 6 t0), some (vI x2), some (vI x3), some (vI x4), some (vI x5), some (vI x6), some (vL y7_35), none, some (vL y9_29), none, some (vI y11_36), none, none, none] ⟨rfl, rfl, rfl, rfl, rfl, rfl, rfl, rfl, rfl, rfl, trivial⟩ ?_
          exact ih _ _ _ _ _ _ _ _ _ hw
theorem wk_X2_screamsIfFailing {t0 : Nat} (ht0 : t0 < 29) (Q : Int64 → gh_M → Prop) (a0 : Int32) (a1 : Int32) (a2 : Int32) (a3 : Int32) (M : gh_M) (hw : wp_X2_screamsIfFailing t0 a0 a1 a2 a3 M Q) : gh_Calls 6 mi_X2_screamsIfFailing [vR 24 0, vR 6 t0, vI a0, vI a1, vI a2, vI a3] M (gh_Ql Q) := by
  refine gh_of (by decide) rfl 9 rfl (L0 := [some (vR 24 0), some (vR 6 t0), some (vI a0), some (vI a1), some (vI a2), some (vI a3), none, none, none, none, none, none, none, none, none]) rfl (fun wd x hE => ?_)
  unfold wp_X2_screamsIfFailing at hw
  refine gh_aload_n dc_X2_screamsIfFailing_0 rfl ?_
  refine gh_callVi (mi' := mi_X5_bitsOn) (as := []) (S := []) (k := 6) (t := t0) dc_X2_screamsIfFailing_1 ml_RX2_132 ok_X5_bitsOn rfl rfl (by decide) (Nat.le_of_ble_eq_true rfl) (by decide) ht0 rfl rfl (wk_X5_bitsOn ht0 _ _ hw) (fun r1 M2 hw => ?_)
  refine gh_istore (L' := [some (vR 24 0), some (vR 6 t0), some (vI a0), some (vI a1), some (vI a2), some (vI a3), some (vI r1), none, none, none, none, none, none, none, none]) dc_X2_screamsIfFailing_4 (by decide) rfl rfl ?_
  refine gh_lconst (v := lN 0) dc_X2_screamsIfFailing_6 gl_0 ?_
  obtain ⟨y7_3, ey7_3⟩ : ∃ z, z = (lN 0) := ⟨_, rfl⟩
  rw [← ey7_3]
  replace hw := hw _ ey7_3
  refine gh_lstore (L' := [some (vR 24 0), some (vR 6 t0), some (vI a0), some (vI a1), some (vI a2), some (vI a3), some (vI r1), some (vL y7_3), none, none, none, none, none, none, none]) dc_X2_screamsIfFailing_7 (by decide) rfl rfl ?_
  refine gh_lconst (v := lN 0) dc_X2_screamsIfFailing_9 gl_0 ?_
  obtain ⟨y9_4, ey9_4⟩ : ∃ z, z = (lN 0) := ⟨_, rfl⟩
  rw [← ey9_4]
  replace hw := hw _ ey9_4
  refine gh_lstore (L' := [some (vR 24 0), some (vR 6 t0), some (vI a0), some (vI a1), some (vI a2), some (vI a3), some (vI r1), some (vL y7_3), none, some (vL y9_4), none, none, none, none, none]) dc_X2_screamsIfFailing_10 (by decide) rfl rfl ?_
  refine gh_iconst (v := (nI 0)) dc_X2_screamsIfFailing_12 gc_0 ?_
  refine gh_istore (L' := [some (vR 24 0), some (vR 6 t0), some (vI a0), some (vI a1), some (vI a2), some (vI a3), some (vI r1), some (vL y7_3), none, some (vL y9_4), none, some (vI (nI 0)), none, none, none]) dc_X2_screamsIfFailing_13 (by decide) rfl rfl ?_
  refine gh_drop (pc' := 0) [some (vR 24 0), some (vR 6 t0), some (vI a0), some (vI a1), some (vI a2), some (vI a3), some (vI r1), some (vL y7_3), none, some (vL y9_4), none, some (vI (nI 0)), none, none, none] ⟨rfl, rfl, rfl, rfl, rfl, rfl, rfl, rfl, rfl, rfl, trivial⟩ ?_
  obtain ⟨k, hw⟩ := hw
  exact lk_X2_screamsIfFailing_15 ht0 hE  k _ _ _ _ _ _ _ _ _ hw
theorem wk_X6_fails   (Q : Int64 → gh_M → Prop) (a0 : Int32) (a1 : Int32) (a2 : Int32) (a3 : Int32) (M : gh_M) (hw : wp_X6_fails  a0 a1 a2 a3 M Q) : gh_Calls 7 mi_X6_fails [vR 0 0, vI a0, vI a1, vI a2, vI a3] M (gh_Ql Q) := by
  refine gh_of (by decide) rfl 0 rfl (L0 := [some (vR 0 0), some (vI a0), some (vI a1), some (vI a2), some (vI a3)]) rfl (fun wd x hE => ?_)
  unfold wp_X6_fails at hw
  refine gh_aload_n dc_X6_fails_0 rfl ?_
  refine gh_iload_n dc_X6_fails_1 rfl ?_
  refine gh_callVi (mi' := mi_X6_isCar) (as := [vI a0]) (S := []) (k := 0) (t := 0) dc_X6_fails_2 ml_RX6_176 ok_X6_isCar rfl rfl (by decide) (Nat.le_of_ble_eq_true rfl) (by decide) (by decide) rfl rfl (wk_X6_isCar _ _ _ hw) (fun r1 M2 hw => ?_)
  refine gh_if_eq (tgt := 38) dc_X6_fails_5 rfl (fun c3 => ?_) (fun c3 => ?_)
  · replace hw := hw.1 c3
    refine gh_ldc2 (v := (-1000001 : Int64)) dc_X6_fails_38 tw_724 ?_
    exact gh_lret dc_X6_fails_41 hE rfl hw
  · replace hw := hw.2 c3
    refine gh_iload_n dc_X6_fails_8 rfl ?_
    refine gh_iconst (v := (nI 0)) dc_X6_fails_9 gc_0 ?_
    refine gh_bipush (v := (nI 60)) dc_X6_fails_10 gb_60 ?_
    refine gh_callSi (mi' := mi_X6_within) (as := [vI a1, vI (nI 0), vI (nI 60)]) (S := []) dc_X6_fails_12 ml_RX6_62 ok_X6_within rfl rfl (by decide) (Nat.le_of_ble_eq_true rfl) (wk_X6_within _ _ _ _ _ hw) (fun r4 M5 hw => ?_)
    refine gh_if_eq (tgt := 38) dc_X6_fails_15 rfl (fun c6 => ?_) (fun c6 => ?_)
    · replace hw := hw.1 c6
      refine gh_ldc2 (v := (-1000001 : Int64)) dc_X6_fails_38 tw_724 ?_
      exact gh_lret dc_X6_fails_41 hE rfl hw
    · replace hw := hw.2 c6
      refine gh_iload_n dc_X6_fails_18 rfl ?_
      refine gh_iconst (v := (nI 0)) dc_X6_fails_19 gc_0 ?_
      refine gh_bipush (v := (nI 10)) dc_X6_fails_20 gb_10 ?_
      refine gh_callSi (mi' := mi_X6_within) (as := [vI a2, vI (nI 0), vI (nI 10)]) (S := []) dc_X6_fails_22 ml_RX6_62 ok_X6_within rfl rfl (by decide) (Nat.le_of_ble_eq_true rfl) (wk_X6_within _ _ _ _ _ hw) (fun r7 M8 hw => ?_)
      refine gh_if_eq (tgt := 38) dc_X6_fails_25 rfl (fun c9 => ?_) (fun c9 => ?_)
      · replace hw := hw.1 c9
        refine gh_ldc2 (v := (-1000001 : Int64)) dc_X6_fails_38 tw_724 ?_
        exact gh_lret dc_X6_fails_41 hE rfl hw
      · replace hw := hw.2 c9
        refine gh_iload dc_X6_fails_28 rfl ?_
        refine gh_iconst (v := (nI 0)) dc_X6_fails_30 gc_0 ?_
        refine gh_iconst (v := (nI 1)) dc_X6_fails_31 gc_1 ?_
        refine gh_callSi (mi' := mi_X6_within) (as := [vI a3, vI (nI 0), vI (nI 1)]) (S := []) dc_X6_fails_32 ml_RX6_62 ok_X6_within rfl rfl (by decide) (Nat.le_of_ble_eq_true rfl) (wk_X6_within _ _ _ _ _ hw) (fun r10 M11 hw => ?_)
        refine gh_if_ne (tgt := 42) dc_X6_fails_35 rfl (fun c12 => ?_) (fun c12 => ?_)
        · replace hw := hw.1 c12
          refine gh_aload_n dc_X6_fails_42 rfl ?_
          refine gh_getR (k := 0) (t := 0) dc_X6_fails_43 fl_RX6_46 (by decide) (by decide) rfl rfl ?_
          refine gh_aload_n dc_X6_fails_46 rfl ?_
          refine gh_getR (k := 0) (t := 0) dc_X6_fails_47 fl_RX6_25 (by decide) (by decide) rfl rfl ?_
          refine gh_iload_n dc_X6_fails_50 rfl ?_
          refine gh_iload_n dc_X6_fails_51 rfl ?_
          refine gh_iload_n dc_X6_fails_52 rfl ?_
          refine gh_iload dc_X6_fails_53 rfl ?_
          refine gh_callVl (mi' := mi_X2_screamsIfFailing) (as := [vR 6 0, vI a0, vI a1, vI a2, vI a3]) (S := []) (k := 24) (t := 0) dc_X6_fails_55 ml_RX6_302 ok_X2_screamsIfFailing rfl rfl (by decide) (Nat.le_of_ble_eq_true rfl) (by decide) (by decide) rfl rfl (wk_X2_screamsIfFailing (by decide) _ _ _ _ _ _ hw) (fun r13 M14 hw => ?_)
          exact gh_lret dc_X6_fails_58 hE rfl hw
        · replace hw := hw.2 c12
          refine gh_ldc2 (v := (-1000001 : Int64)) dc_X6_fails_38 tw_724 ?_
          exact gh_lret dc_X6_fails_41 hE rfl hw
theorem lk_X5_sum_k16_4 {wd : gh_Wd} {x : gh_X} {Q : Int32 → gh_M → Prop} {t0 : Nat} (ht0 : t0 < 29) (hE : gh_E wd (gh_Qi Q) x)   : ∀ (n : Nat) (x1 : Int32) (x2 : Int32) (x3 : Int32) (M : gh_M), wl_X5_sum_k16_4 t0 Q n x1 x2 x3 M → gh_J mi_X5_sum 1 wd x M 4 [some (vR 16 t0), some (vI x1), some (vI x2), some (vI x3)] [] := by
  intro n
  induction n with
  | zero => intro x1 x2 x3 M hw; exact hw.elim
  | succ n ih =>
    intro x1 x2 x3 M hw
    unfold wl_X5_sum_k16_4 at hw
    refine gh_iload_n dc_X5_sum_4 rfl ?_
    refine gh_iload_n dc_X5_sum_5 rfl ?_
    refine gh_icmp_ge (tgt := 27) dc_X5_sum_6 rfl (fun c1 => ?_) (fun c1 => ?_)
    · replace hw := hw.1 c1
      refine gh_iload_n dc_X5_sum_27 rfl ?_
      exact gh_iret dc_X5_sum_28 hE rfl hw
    · replace hw := hw.2 c1
      refine gh_iload_n dc_X5_sum_9 rfl ?_
      refine gh_aload_n dc_X5_sum_10 rfl ?_
      refine gh_alen (k := 16) (t := t0) dc_X5_sum_11 rfl (by decide) ht0 ?_
      refine gh_icmp_ge (tgt := 27) dc_X5_sum_12 rfl (fun c2 => ?_) (fun c2 => ?_)
      · replace hw := hw.1 c2
        refine gh_iload_n dc_X5_sum_27 rfl ?_
        exact gh_iret dc_X5_sum_28 hE rfl hw
      · replace hw := hw.2 c2
        refine gh_iload_n dc_X5_sum_15 rfl ?_
        refine gh_aload_n dc_X5_sum_16 rfl ?_
        refine gh_iload_n dc_X5_sum_17 rfl ?_
        obtain ⟨h3, hw⟩ := hw
        refine gh_iald (k := 16) (t := t0) dc_X5_sum_18 rfl (by decide) ht0 h3 ?_
        refine gh_iadd dc_X5_sum_19 ?_
        obtain ⟨y2_4, ey2_4⟩ : ∃ z, z = (x2 + (M 16 t0 x3.toNatClampNeg)) := ⟨_, rfl⟩
        rw [← ey2_4]
        replace hw := hw _ ey2_4
        refine gh_istore_n (L' := [some (vR 16 t0), some (vI x1), some (vI y2_4), some (vI x3)]) dc_X5_sum_20 (by decide) rfl rfl ?_
        obtain ⟨y3_5, ey3_5⟩ : ∃ z, z = (x3 + (nI 1)) := ⟨_, rfl⟩
        replace hw := hw _ ey3_5
        refine gh_iinc (v := y3_5) (L' := [some (vR 16 t0), some (vI x1), some (vI y2_4), some (vI y3_5)]) dc_X5_sum_21 rfl ((congrArg (fun z => x3 + z) gc_1).trans ey3_5.symm) (by decide) rfl rfl ?_
        refine gh_goto (tgt := 4) dc_X5_sum_24 rfl ?_
        refine gh_drop (pc' := 0) [some (vR 16 t0), some (vI x1), some (vI y2_4), some (vI y3_5)] ⟨rfl, rfl, rfl, rfl, trivial⟩ ?_
        exact ih _ _ _ _ hw
theorem wk_X5_sum_k16 {t0 : Nat} (ht0 : t0 < 29) (Q : Int32 → gh_M → Prop) (a0 : Int32) (M : gh_M) (hw : wp_X5_sum_k16 t0 a0 M Q) : gh_Calls 1 mi_X5_sum [vR 16 t0, vI a0] M (gh_Qi Q) := by
  refine gh_of (by decide) rfl 2 rfl (L0 := [some (vR 16 t0), some (vI a0), none, none]) rfl (fun wd x hE => ?_)
  unfold wp_X5_sum_k16 at hw
  refine gh_iconst (v := (nI 0)) dc_X5_sum_0 gc_0 ?_
  refine gh_istore_n (L' := [some (vR 16 t0), some (vI a0), some (vI (nI 0)), none]) dc_X5_sum_1 (by decide) rfl rfl ?_
  refine gh_iconst (v := (nI 0)) dc_X5_sum_2 gc_0 ?_
  refine gh_istore_n (L' := [some (vR 16 t0), some (vI a0), some (vI (nI 0)), some (vI (nI 0))]) dc_X5_sum_3 (by decide) rfl rfl ?_
  refine gh_drop (pc' := 0) [some (vR 16 t0), some (vI a0), some (vI (nI 0)), some (vI (nI 0))] ⟨rfl, rfl, rfl, rfl, trivial⟩ ?_
  obtain ⟨k, hw⟩ := hw
  exact lk_X5_sum_k16_4 ht0 hE  k _ _ _ _ hw
theorem wk_X5_allFear {t0 : Nat} (ht0 : t0 < 29) (Q : Int32 → gh_M → Prop)  (M : gh_M) (hw : wp_X5_allFear t0  M Q) : gh_Calls 2 mi_X5_allFear [vR 6 t0] M (gh_Qi Q) := by
  refine gh_of (by decide) rfl 0 rfl (L0 := [some (vR 6 t0)]) rfl (fun wd x hE => ?_)
  unfold wp_X5_allFear at hw
  refine gh_aload_n dc_X5_allFear_0 rfl ?_
  refine gh_getR (k := 6) (t := t0) dc_X5_allFear_1 fl_RX5_40 (by decide) ht0 rfl rfl ?_
  refine gh_aload_n dc_X5_allFear_4 rfl ?_
  refine gh_getI (k := 6) (t := t0) dc_X5_allFear_5 fl_RX5_62 (by decide) ht0 rfl rfl ?_
  refine gh_callSi (mi' := mi_X5_sum) (as := [vR 16 t0, vI (M 6 t0 2)]) (S := []) dc_X5_allFear_8 ml_RX5_121 ok_X5_sum rfl rfl (by decide) (Nat.le_of_ble_eq_true rfl) (wk_X5_sum_k16 ht0 _ _ _ hw) (fun r1 M2 hw => ?_)
  exact gh_iret dc_X5_allFear_11 hE rfl hw
theorem wk_X2_draw   (Q : gh_M → Prop) (a0 : Int64) (M : gh_M) (hw : wp_X2_draw  a0 M Q) : gh_Calls 2 mi_X2_draw [vR 24 0, vL a0] M (gh_Qv Q) := by
  refine gh_of (by decide) rfl 1 rfl (L0 := [some (vR 24 0), some (vL a0), none, none]) rfl (fun wd x hE => ?_)
  unfold wp_X2_draw at hw
  refine gh_aload_n dc_X2_draw_0 rfl ?_
  refine gh_getR (k := 24) (t := 0) dc_X2_draw_1 fl_RX2_12 (by decide) (by decide) rfl rfl ?_
  refine gh_getI (k := 6) (t := 28) dc_X2_draw_4 fl_RX2_97 (by decide) (by decide) rfl rfl ?_
  refine gh_if_eq (tgt := 30) dc_X2_draw_7 rfl (fun c1 => ?_) (fun c1 => ?_)
  · replace hw := hw.1 c1
    exact gh_vret dc_X2_draw_30 hE rfl hw
  · replace hw := hw.2 c1
    refine gh_aload_n dc_X2_draw_10 rfl ?_
    refine gh_getR (k := 24) (t := 0) dc_X2_draw_11 fl_RX2_12 (by decide) (by decide) rfl rfl ?_
    refine gh_getI (k := 6) (t := 28) dc_X2_draw_14 fl_RX2_113 (by decide) (by decide) rfl rfl ?_
    refine gh_if_eq (tgt := 30) dc_X2_draw_17 rfl (fun c2 => ?_) (fun c2 => ?_)
    · replace hw := hw.1 c2
      exact gh_vret dc_X2_draw_30 hE rfl hw
    · replace hw := hw.2 c2
      refine gh_aload_n dc_X2_draw_20 rfl ?_
      refine gh_getR (k := 24) (t := 0) dc_X2_draw_21 fl_RX2_12 (by decide) (by decide) rfl rfl ?_
      refine gh_getI (k := 6) (t := 28) dc_X2_draw_24 fl_RX2_107 (by decide) (by decide) rfl rfl ?_
      refine gh_if_ne (tgt := 31) dc_X2_draw_27 rfl (fun c3 => ?_) (fun c3 => ?_)
      · replace hw := hw.1 c3
        refine gh_lload_n dc_X2_draw_31 rfl ?_
        refine gh_aload_n dc_X2_draw_32 rfl ?_
        refine gh_getR (k := 24) (t := 0) dc_X2_draw_33 fl_RX2_12 (by decide) (by decide) rfl rfl ?_
        refine gh_getI (k := 6) (t := 28) dc_X2_draw_36 fl_RX2_97 (by decide) (by decide) rfl rfl ?_
        refine gh_i2l dc_X2_draw_39 ?_
        obtain ⟨h4, hw⟩ := hw
        refine gh_lrem dc_X2_draw_40 h4 ?_
        refine gh_l2i dc_X2_draw_41 ?_
        obtain ⟨y3_5, ey3_5⟩ : ∃ z, z = (a0 - a0 / (M 6 28 2).toInt64 * (M 6 28 2).toInt64).toInt32 := ⟨_, rfl⟩
        rw [← ey3_5]
        replace hw := hw _ ey3_5
        refine gh_istore_n (L' := [some (vR 24 0), some (vL a0), none, some (vI y3_5)]) dc_X2_draw_42 (by decide) rfl rfl ?_
        refine gh_aload_n dc_X2_draw_43 rfl ?_
        refine gh_getR (k := 24) (t := 0) dc_X2_draw_44 fl_RX2_12 (by decide) (by decide) rfl rfl ?_
        refine gh_getR (k := 6) (t := 28) dc_X2_draw_47 fl_RX2_57 (by decide) (by decide) rfl rfl ?_
        refine gh_iload_n dc_X2_draw_50 rfl ?_
        obtain ⟨h6, hw⟩ := hw
        refine gh_iald (k := 15) (t := 28) dc_X2_draw_51 rfl (by decide) (by decide) h6 ?_
        refine gh_bipush (v := (nI 21)) dc_X2_draw_52 gb_21 ?_
        refine gh_icmp_ne (tgt := 68) dc_X2_draw_54 rfl (fun c7 => ?_) (fun c7 => ?_)
        · replace hw := hw.1 c7
          refine gh_lload_n dc_X2_draw_68 rfl ?_
          refine gh_ldc2 (v := (3 : Int64)) dc_X2_draw_69 tw_751 ?_
          obtain ⟨h8, hw⟩ := hw
          refine gh_lrem dc_X2_draw_72 h8 ?_
          refine gh_lconst (v := lN 0) dc_X2_draw_73 gl_0 ?_
          refine gh_lcmp dc_X2_draw_74 ?_
          refine gh_if_ne (tgt := 108) dc_X2_draw_75 rfl (fun c9 => ?_) (fun c9 => ?_)
          · replace hw := hw.1 c9
            exact gh_vret dc_X2_draw_108 hE rfl hw
          · replace hw := hw.2 c9
            refine gh_aload_n dc_X2_draw_78 rfl ?_
            refine gh_getR (k := 24) (t := 0) dc_X2_draw_79 fl_RX2_12 (by decide) (by decide) rfl rfl ?_
            refine gh_getR (k := 6) (t := 28) dc_X2_draw_82 fl_RX2_110 (by decide) (by decide) rfl rfl ?_
            refine gh_lload_n dc_X2_draw_85 rfl ?_
            refine gh_aload_n dc_X2_draw_86 rfl ?_
            refine gh_getR (k := 24) (t := 0) dc_X2_draw_87 fl_RX2_12 (by decide) (by decide) rfl rfl ?_
            refine gh_getI (k := 6) (t := 28) dc_X2_draw_90 fl_RX2_113 (by decide) (by decide) rfl rfl ?_
            refine gh_i2l dc_X2_draw_93 ?_
            obtain ⟨h10, hw⟩ := hw
            refine gh_lrem dc_X2_draw_94 h10 ?_
            refine gh_l2i dc_X2_draw_95 ?_
            refine gh_lload_n dc_X2_draw_96 rfl ?_
            refine gh_aload_n dc_X2_draw_97 rfl ?_
            refine gh_getR (k := 24) (t := 0) dc_X2_draw_98 fl_RX2_12 (by decide) (by decide) rfl rfl ?_
            refine gh_getI (k := 6) (t := 28) dc_X2_draw_101 fl_RX2_107 (by decide) (by decide) rfl rfl ?_
            refine gh_i2l dc_X2_draw_104 ?_
            obtain ⟨h11, hw⟩ := hw
            refine gh_lrem dc_X2_draw_105 h11 ?_
            refine gh_l2i dc_X2_draw_106 ?_
            obtain ⟨h12, hw⟩ := hw
            refine gh_iast (k := 8) (t := 28) dc_X2_draw_107 rfl (by decide) (by decide) h12 ?_
            obtain ⟨M13, eM13⟩ : ∃ z, z = (gh_st M 8 28 (a0 - a0 / (M 6 28 1).toInt64 * (M 6 28 1).toInt64).toInt32.toNatClampNeg (a0 - a0 / (M 6 28 0).toInt64 * (M 6 28 0).toInt64).toInt32) := ⟨_, rfl⟩
            rw [← eM13]
            replace hw := hw _ eM13
            exact gh_vret dc_X2_draw_108 hE rfl hw
        · replace hw := hw.2 c7
          refine gh_aload_n dc_X2_draw_57 rfl ?_
          refine gh_getR (k := 24) (t := 0) dc_X2_draw_58 fl_RX2_12 (by decide) (by decide) rfl rfl ?_
          refine gh_iload_n dc_X2_draw_61 rfl ?_
          refine gh_callVv (mi' := mi_X5_goAgain) (as := [vI y3_5]) (S := []) (k := 6) (t := 28) dc_X2_draw_62 ml_RX2_190 ok_X5_goAgain rfl rfl (by decide) (Nat.le_of_ble_eq_true rfl) (by decide) (by decide) rfl rfl (wk_X5_goAgain (by decide) _ _ _ hw) (fun M15 hw => ?_)
          refine gh_goto (tgt := 108) dc_X2_draw_65 rfl ?_
          exact gh_vret dc_X2_draw_108 hE rfl hw
      · replace hw := hw.2 c3
        exact gh_vret dc_X2_draw_30 hE rfl hw
theorem lk_X2_nightsByDraws_15 {wd : gh_Wd} {x : gh_X} {Q : Int32 → gh_M → Prop} {t0 : Nat} (ht0 : t0 < 29) (hE : gh_E wd (gh_Qi Q) x)   : ∀ (n : Nat) (x2 : Int32) (x4 : Int32) (x5 : Int64) (x7 : Int32) (M : gh_M), wl_X2_nightsByDraws_15 t0 Q n x2 x4 x5 x7 M → gh_J mi_X2_nightsByDraws 5 wd x M 15 [some (vR 24 0), some (vR 6 t0), some (vI x2), none, some (vI x4), some (vL x5), none, some (vI x7)] [] := by
  intro n
  induction n with
  | zero => intro x2 x4 x5 x7 M hw; exact hw.elim
  | succ n ih =>
    intro x2 x4 x5 x7 M hw
    unfold wl_X2_nightsByDraws_15 at hw
    refine gh_iload dc_X2_nightsByDraws_15 rfl ?_
    refine gh_iload_n dc_X2_nightsByDraws_17 rfl ?_
    refine gh_icmp_ge (tgt := 52) dc_X2_nightsByDraws_18 rfl (fun c4 => ?_) (fun c4 => ?_)
    · replace hw := hw.1 c4
      refine gh_iload dc_X2_nightsByDraws_52 rfl ?_
      refine gh_if_ne (tgt := 72) dc_X2_nightsByDraws_54 rfl (fun c5 => ?_) (fun c5 => ?_)
      · replace hw := hw.1 c5
        refine gh_aload_n dc_X2_nightsByDraws_72 rfl ?_
        refine gh_getR (k := 24) (t := 0) dc_X2_nightsByDraws_73 fl_RX2_12 (by decide) (by decide) rfl rfl ?_
        refine gh_callVi (mi' := mi_X5_allFear) (as := []) (S := []) (k := 6) (t := 28) dc_X2_nightsByDraws_76 ml_RX2_187 ok_X5_allFear rfl rfl (by decide) (Nat.le_of_ble_eq_true rfl) (by decide) (by decide) rfl rfl (wk_X5_allFear (by decide) _ _ hw) (fun r6 M7 hw => ?_)
        exact gh_iret dc_X2_nightsByDraws_79 hE rfl hw
      · replace hw := hw.2 c5
        refine gh_aload_n dc_X2_nightsByDraws_57 rfl ?_
        refine gh_getR (k := 24) (t := 0) dc_X2_nightsByDraws_58 fl_RX2_12 (by decide) (by decide) rfl rfl ?_
        refine gh_callVi (mi' := mi_X5_allScreams) (as := []) (S := []) (k := 6) (t := 28) dc_X2_nightsByDraws_61 ml_RX2_80 ok_X5_allScreams rfl rfl (by decide) (Nat.le_of_ble_eq_true rfl) (by decide) (by decide) rfl rfl (wk_X5_allScreams (by decide) _ _ hw) (fun r8 M9 hw => ?_)
        refine gh_aload_n dc_X2_nightsByDraws_64 rfl ?_
        refine gh_callVi (mi' := mi_X5_allScreams) (as := []) (S := [vI r8]) (k := 6) (t := t0) dc_X2_nightsByDraws_65 ml_RX2_80 ok_X5_allScreams rfl rfl (by decide) (Nat.le_of_ble_eq_true rfl) (by decide) ht0 rfl rfl (wk_X5_allScreams ht0 _ _ hw) (fun r10 M11 hw => ?_)
        refine gh_isub dc_X2_nightsByDraws_68 ?_
        refine gh_goto (tgt := 79) dc_X2_nightsByDraws_69 rfl ?_
        exact gh_iret dc_X2_nightsByDraws_79 hE rfl hw
    · replace hw := hw.2 c4
      refine gh_lload dc_X2_nightsByDraws_21 rfl ?_
      refine gh_ldc2 (v := (16807 : Int64)) dc_X2_nightsByDraws_23 tw_744 ?_
      refine gh_lmul dc_X2_nightsByDraws_26 ?_
      refine gh_ldc2 (v := (2147483647 : Int64)) dc_X2_nightsByDraws_27 tw_745 ?_
      obtain ⟨h12, hw⟩ := hw
      refine gh_lrem dc_X2_nightsByDraws_30 h12 ?_
      obtain ⟨y5_13, ey5_13⟩ : ∃ z, z = ((x5 * (16807 : Int64)) - (x5 * (16807 : Int64)) / (2147483647 : Int64) * (2147483647 : Int64)) := ⟨_, rfl⟩
      rw [← ey5_13]
      replace hw := hw _ ey5_13
      refine gh_lstore (L' := [some (vR 24 0), some (vR 6 t0), some (vI x2), none, some (vI x4), some (vL y5_13), none, some (vI x7)]) dc_X2_nightsByDraws_31 (by decide) rfl rfl ?_
      refine gh_aload_n dc_X2_nightsByDraws_33 rfl ?_
      refine gh_lload dc_X2_nightsByDraws_34 rfl ?_
      refine gh_callVv (mi' := mi_X2_draw) (as := [vL y5_13]) (S := []) (k := 24) (t := 0) dc_X2_nightsByDraws_36 ml_RX2_183 ok_X2_draw rfl rfl (by decide) (Nat.le_of_ble_eq_true rfl) (by decide) (by decide) rfl rfl (wk_X2_draw _ _ _ hw) (fun M15 hw => ?_)
      refine gh_aload_n dc_X2_nightsByDraws_39 rfl ?_
      refine gh_getR (k := 24) (t := 0) dc_X2_nightsByDraws_40 fl_RX2_12 (by decide) (by decide) rfl rfl ?_
      refine gh_callVv (mi' := mi_X5_tickOn) (as := []) (S := []) (k := 6) (t := 28) dc_X2_nightsByDraws_43 ml_RX2_53 ok_X5_tickOn rfl rfl (by decide) (Nat.le_of_ble_eq_true rfl) (by decide) (by decide) rfl rfl (wk_X5_tickOn (by decide) _ _ hw) (fun M17 hw => ?_)
      obtain ⟨y7_18, ey7_18⟩ : ∃ z, z = (x7 + (nI 1)) := ⟨_, rfl⟩
      replace hw := hw _ ey7_18
      refine gh_iinc (v := y7_18) (L' := [some (vR 24 0), some (vR 6 t0), some (vI x2), none, some (vI x4), some (vL y5_13), none, some (vI y7_18)]) dc_X2_nightsByDraws_46 rfl ((congrArg (fun z => x7 + z) gc_1).trans ey7_18.symm) (by decide) rfl rfl ?_
      refine gh_goto (tgt := 15) dc_X2_nightsByDraws_49 rfl ?_
      refine gh_drop (pc' := 0) [some (vR 24 0), some (vR 6 t0), some (vI x2), none, some (vI x4), some (vL y5_13), none, some (vI y7_18)] ⟨rfl, rfl, rfl, rfl, rfl, rfl, trivial⟩ ?_
      exact ih _ _ _ _ _ hw
theorem wk_X2_nightsByDraws {t0 : Nat} (ht0 : t0 < 29) (Q : Int32 → gh_M → Prop) (a0 : Int32) (a1 : Int32) (a2 : Int32) (M : gh_M) (hw : wp_X2_nightsByDraws t0 a0 a1 a2 M Q) : gh_Calls 5 mi_X2_nightsByDraws [vR 24 0, vR 6 t0, vI a0, vI a1, vI a2] M (gh_Qi Q) := by
  refine gh_of (by decide) rfl 3 rfl (L0 := [some (vR 24 0), some (vR 6 t0), some (vI a0), some (vI a1), some (vI a2), none, none, none]) rfl (fun wd x hE => ?_)
  unfold wp_X2_nightsByDraws at hw
  refine gh_aload_n dc_X2_nightsByDraws_0 rfl ?_
  refine gh_getR (k := 24) (t := 0) dc_X2_nightsByDraws_1 fl_RX2_12 (by decide) (by decide) rfl rfl ?_
  refine gh_aload_n dc_X2_nightsByDraws_4 rfl ?_
  refine gh_callVv (mi' := mi_X5_copyFrom) (as := [vR 6 t0]) (S := []) (k := 6) (t := 28) dc_X2_nightsByDraws_5 ml_RX2_38 ok_X5_copyFrom rfl rfl (by decide) (Nat.le_of_ble_eq_true rfl) (by decide) (by decide) rfl rfl (wk_X5_copyFrom (by decide) ht0 _ _ hw) (fun M2 hw => ?_)
  refine gh_iload_n dc_X2_nightsByDraws_8 rfl ?_
  refine gh_i2l dc_X2_nightsByDraws_9 ?_
  obtain ⟨y5_3, ey5_3⟩ : ∃ z, z = a1.toInt64 := ⟨_, rfl⟩
  rw [← ey5_3]
  replace hw := hw _ ey5_3
  refine gh_lstore (L' := [some (vR 24 0), some (vR 6 t0), some (vI a0), some (vI a1), some (vI a2), some (vL y5_3), none, none]) dc_X2_nightsByDraws_10 (by decide) rfl rfl ?_
  refine gh_iconst (v := (nI 0)) dc_X2_nightsByDraws_12 gc_0 ?_
  refine gh_istore (L' := [some (vR 24 0), some (vR 6 t0), some (vI a0), some (vI a1), some (vI a2), some (vL y5_3), none, some (vI (nI 0))]) dc_X2_nightsByDraws_13 (by decide) rfl rfl ?_
  refine gh_drop (pc' := 0) [some (vR 24 0), some (vR 6 t0), some (vI a0), none, some (vI a2), some (vL y5_3), none, some (vI (nI 0))] ⟨rfl, rfl, rfl, rfl, rfl, rfl, trivial⟩ ?_
  obtain ⟨k, hw⟩ := hw
  exact lk_X2_nightsByDraws_15 ht0 hE  k _ _ _ _ _ hw
theorem wk_X6_drawn   (Q : Int32 → gh_M → Prop) (a0 : Int32) (a1 : Int32) (a2 : Int32) (M : gh_M) (hw : wp_X6_drawn  a0 a1 a2 M Q) : gh_Calls 6 mi_X6_drawn [vR 0 0, vI a0, vI a1, vI a2] M (gh_Qi Q) := by
  refine gh_of (by decide) rfl 0 rfl (L0 := [some (vR 0 0), some (vI a0), some (vI a1), some (vI a2)]) rfl (fun wd x hE => ?_)
  unfold wp_X6_drawn at hw
  refine gh_aload_n dc_X6_drawn_0 rfl ?_
  refine gh_callVi (mi' := mi_X6_hasTrain) (as := []) (S := []) (k := 0) (t := 0) dc_X6_drawn_1 ml_RX6_142 ok_X6_hasTrain rfl rfl (by decide) (Nat.le_of_ble_eq_true rfl) (by decide) (by decide) rfl rfl (wk_X6_hasTrain _ _ hw) (fun r1 M2 hw => ?_)
  refine gh_if_ne (tgt := 10) dc_X6_drawn_4 rfl (fun c3 => ?_) (fun c3 => ?_)
  · replace hw := hw.1 c3
    refine gh_iload_n dc_X6_drawn_10 rfl ?_
    refine gh_iconst (v := (nI 0)) dc_X6_drawn_11 gc_0 ?_
    refine gh_bipush (v := (nI 60)) dc_X6_drawn_12 gb_60 ?_
    refine gh_callSi (mi' := mi_X6_within) (as := [vI a0, vI (nI 0), vI (nI 60)]) (S := []) dc_X6_drawn_14 ml_RX6_62 ok_X6_within rfl rfl (by decide) (Nat.le_of_ble_eq_true rfl) (wk_X6_within _ _ _ _ _ hw) (fun r4 M5 hw => ?_)
    refine gh_if_eq (tgt := 40) dc_X6_drawn_17 rfl (fun c6 => ?_) (fun c6 => ?_)
    · replace hw := hw.1 c6
      refine gh_ldc (v := (-1000001 : Int32)) dc_X6_drawn_40 tw_281 ?_
      exact gh_iret dc_X6_drawn_42 hE rfl hw
    · replace hw := hw.2 c6
      refine gh_iload_n dc_X6_drawn_20 rfl ?_
      refine gh_iconst (v := (nI 1)) dc_X6_drawn_21 gc_1 ?_
      refine gh_ldcw (v := (999999 : Int32)) dc_X6_drawn_22 tw_739 ?_
      refine gh_callSi (mi' := mi_X6_within) (as := [vI a1, vI (nI 1), vI (999999 : Int32)]) (S := []) dc_X6_drawn_25 ml_RX6_62 ok_X6_within rfl rfl (by decide) (Nat.le_of_ble_eq_true rfl) (wk_X6_within _ _ _ _ _ hw) (fun r7 M8 hw => ?_)
      refine gh_if_eq (tgt := 40) dc_X6_drawn_28 rfl (fun c9 => ?_) (fun c9 => ?_)
      · replace hw := hw.1 c9
        refine gh_ldc (v := (-1000001 : Int32)) dc_X6_drawn_40 tw_281 ?_
        exact gh_iret dc_X6_drawn_42 hE rfl hw
      · replace hw := hw.2 c9
        refine gh_iload_n dc_X6_drawn_31 rfl ?_
        refine gh_iconst (v := (nI 0)) dc_X6_drawn_32 gc_0 ?_
        refine gh_iconst (v := (nI 1)) dc_X6_drawn_33 gc_1 ?_
        refine gh_callSi (mi' := mi_X6_within) (as := [vI a2, vI (nI 0), vI (nI 1)]) (S := []) dc_X6_drawn_34 ml_RX6_62 ok_X6_within rfl rfl (by decide) (Nat.le_of_ble_eq_true rfl) (wk_X6_within _ _ _ _ _ hw) (fun r10 M11 hw => ?_)
        refine gh_if_ne (tgt := 43) dc_X6_drawn_37 rfl (fun c12 => ?_) (fun c12 => ?_)
        · replace hw := hw.1 c12
          refine gh_aload_n dc_X6_drawn_43 rfl ?_
          refine gh_getR (k := 0) (t := 0) dc_X6_drawn_44 fl_RX6_46 (by decide) (by decide) rfl rfl ?_
          refine gh_aload_n dc_X6_drawn_47 rfl ?_
          refine gh_getR (k := 0) (t := 0) dc_X6_drawn_48 fl_RX6_25 (by decide) (by decide) rfl rfl ?_
          refine gh_iload_n dc_X6_drawn_51 rfl ?_
          refine gh_iload_n dc_X6_drawn_52 rfl ?_
          refine gh_iload_n dc_X6_drawn_53 rfl ?_
          refine gh_callVi (mi' := mi_X2_nightsByDraws) (as := [vR 6 0, vI a0, vI a1, vI a2]) (S := []) (k := 24) (t := 0) dc_X6_drawn_54 ml_RX6_307 ok_X2_nightsByDraws rfl rfl (by decide) (Nat.le_of_ble_eq_true rfl) (by decide) (by decide) rfl rfl (wk_X2_nightsByDraws (by decide) _ _ _ _ _ hw) (fun r13 M14 hw => ?_)
          exact gh_iret dc_X6_drawn_57 hE rfl hw
        · replace hw := hw.2 c12
          refine gh_ldc (v := (-1000001 : Int32)) dc_X6_drawn_40 tw_281 ?_
          exact gh_iret dc_X6_drawn_42 hE rfl hw
  · replace hw := hw.2 c3
    refine gh_ldc (v := (-1000002 : Int32)) dc_X6_drawn_7 tw_402 ?_
    exact gh_iret dc_X6_drawn_9 hE rfl hw
theorem wk_X6_image   (Q : Int32 → gh_M → Prop) (a0 : Int32) (M : gh_M) (hw : wp_X6_image  a0 M Q) : gh_Calls 2 mi_X6_image [vR 0 0, vI a0] M (gh_Qi Q) := by
  refine gh_of (by decide) rfl 0 rfl (L0 := [some (vR 0 0), some (vI a0)]) rfl (fun wd x hE => ?_)
  unfold wp_X6_image at hw
  refine gh_iload_n dc_X6_image_0 rfl ?_
  refine gh_iconst (v := (nI 0)) dc_X6_image_1 gc_0 ?_
  refine gh_iconst (v := (nI 1)) dc_X6_image_2 gc_1 ?_
  refine gh_callSi (mi' := mi_X6_within) (as := [vI a0, vI (nI 0), vI (nI 1)]) (S := []) dc_X6_image_3 ml_RX6_62 ok_X6_within rfl rfl (by decide) (Nat.le_of_ble_eq_true rfl) (wk_X6_within _ _ _ _ _ hw) (fun r1 M2 hw => ?_)
  refine gh_if_ne (tgt := 12) dc_X6_image_6 rfl (fun c3 => ?_) (fun c3 => ?_)
  · replace hw := hw.1 c3
    refine gh_aload_n dc_X6_image_12 rfl ?_
    refine gh_callVi (mi' := mi_X6_hasTrain) (as := []) (S := []) (k := 0) (t := 0) dc_X6_image_13 ml_RX6_142 ok_X6_hasTrain rfl rfl (by decide) (Nat.le_of_ble_eq_true rfl) (by decide) (by decide) rfl rfl (wk_X6_hasTrain _ _ hw) (fun r4 M5 hw => ?_)
    refine gh_if_ne (tgt := 22) dc_X6_image_16 rfl (fun c6 => ?_) (fun c6 => ?_)
    · replace hw := hw.1 c6
      refine gh_aload_n dc_X6_image_22 rfl ?_
      refine gh_getR (k := 0) (t := 0) dc_X6_image_23 fl_RX6_39 (by decide) (by decide) rfl rfl ?_
      refine gh_iload_n dc_X6_image_26 rfl ?_
      obtain ⟨h7, hw⟩ := hw
      refine gh_aald (k := 23) (t := 0) (a := 1) dc_X6_image_27 rfl (by decide) (by decide) (by decide) h7 rfl ?_
      have bj8 := gh_cl h7
      obtain ⟨j8, ej8⟩ : ∃ z, a0.toNatClampNeg = z := ⟨_, rfl⟩
      rw [ej8]
      rw [ej8] at bj8
      replace hw := hw _ bj8 ej8
      refine gh_aload_n dc_X6_image_28 rfl ?_
      refine gh_getR (k := 0) (t := 0) dc_X6_image_29 fl_RX6_25 (by decide) (by decide) rfl rfl ?_
      refine gh_callVv (mi' := mi_X5_copyFrom) (as := [vR 6 0]) (S := []) (k := 6) (t := (26 + j8)) dc_X6_image_32 ml_RX6_310 ok_X5_copyFrom rfl rfl (by decide) (Nat.le_of_ble_eq_true rfl) (by decide) (show (26 + j8) < 29 by omega) rfl rfl (wk_X5_copyFrom (show (26 + j8) < 29 by omega) (by decide) _ _ hw) (fun M10 hw => ?_)
      refine gh_iconst (v := (nI 1)) dc_X6_image_35 gc_1 ?_
      exact gh_iret dc_X6_image_36 hE rfl hw
    · replace hw := hw.2 c6
      refine gh_ldc (v := (-1000002 : Int32)) dc_X6_image_19 tw_402 ?_
      exact gh_iret dc_X6_image_21 hE rfl hw
  · replace hw := hw.2 c3
    refine gh_ldc (v := (-1000001 : Int32)) dc_X6_image_9 tw_281 ?_
    exact gh_iret dc_X6_image_11 hE rfl hw
theorem wk_X6_restore   (Q : Int32 → gh_M → Prop) (a0 : Int32) (M : gh_M) (hw : wp_X6_restore  a0 M Q) : gh_Calls 3 mi_X6_restore [vR 0 0, vI a0] M (gh_Qi Q) := by
  refine gh_of (by decide) rfl 0 rfl (L0 := [some (vR 0 0), some (vI a0)]) rfl (fun wd x hE => ?_)
  unfold wp_X6_restore at hw
  refine gh_iload_n dc_X6_restore_0 rfl ?_
  refine gh_iconst (v := (nI 0)) dc_X6_restore_1 gc_0 ?_
  refine gh_iconst (v := (nI 1)) dc_X6_restore_2 gc_1 ?_
  refine gh_callSi (mi' := mi_X6_within) (as := [vI a0, vI (nI 0), vI (nI 1)]) (S := []) dc_X6_restore_3 ml_RX6_62 ok_X6_within rfl rfl (by decide) (Nat.le_of_ble_eq_true rfl) (wk_X6_within _ _ _ _ _ hw) (fun r1 M2 hw => ?_)
  refine gh_if_ne (tgt := 12) dc_X6_restore_6 rfl (fun c3 => ?_) (fun c3 => ?_)
  · replace hw := hw.1 c3
    refine gh_aload_n dc_X6_restore_12 rfl ?_
    refine gh_getR (k := 0) (t := 0) dc_X6_restore_13 fl_RX6_39 (by decide) (by decide) rfl rfl ?_
    refine gh_iload_n dc_X6_restore_16 rfl ?_
    obtain ⟨h4, hw⟩ := hw
    refine gh_aald (k := 23) (t := 0) (a := 1) dc_X6_restore_17 rfl (by decide) (by decide) (by decide) h4 rfl ?_
    have bj5 := gh_cl h4
    obtain ⟨j5, ej5⟩ : ∃ z, a0.toNatClampNeg = z := ⟨_, rfl⟩
    rw [ej5]
    rw [ej5] at bj5
    replace hw := hw _ bj5 ej5
    refine gh_getI (k := 6) (t := (26 + j5)) dc_X6_restore_18 fl_RX6_247 (by decide) (show (26 + j5) < 29 by omega) rfl rfl ?_
    refine gh_if_ne (tgt := 27) dc_X6_restore_21 rfl (fun c6 => ?_) (fun c6 => ?_)
    · replace hw := hw.1 c6
      refine gh_aload_n dc_X6_restore_27 rfl ?_
      refine gh_aload_n dc_X6_restore_28 rfl ?_
      refine gh_getR (k := 0) (t := 0) dc_X6_restore_29 fl_RX6_39 (by decide) (by decide) rfl rfl ?_
      refine gh_iload_n dc_X6_restore_32 rfl ?_
      obtain ⟨h7, hw⟩ := hw
      refine gh_aald (k := 23) (t := 0) (a := 1) dc_X6_restore_33 rfl (by decide) (by decide) (by decide) h7 rfl ?_
      have bj8 := gh_cl h7
      obtain ⟨j8, ej8⟩ : ∃ z, a0.toNatClampNeg = z := ⟨_, rfl⟩
      rw [ej8]
      rw [ej8] at bj8
      replace hw := hw _ bj8 ej8
      refine gh_callVv (mi' := mi_X6_becomes) (as := [vR 6 (26 + j8)]) (S := []) (k := 0) (t := 0) dc_X6_restore_34 ml_RX6_125 ok_X6_becomes rfl rfl (by decide) (Nat.le_of_ble_eq_true rfl) (by decide) (by decide) rfl rfl (wk_X6_becomes (show (26 + j8) < 29 by omega) _ _ hw) (fun M10 hw => ?_)
      refine gh_iconst (v := (nI 1)) dc_X6_restore_37 gc_1 ?_
      exact gh_iret dc_X6_restore_38 hE rfl hw
    · replace hw := hw.2 c6
      refine gh_ldc (v := (-1000002 : Int32)) dc_X6_restore_24 tw_402 ?_
      exact gh_iret dc_X6_restore_26 hE rfl hw
  · replace hw := hw.2 c3
    refine gh_ldc (v := (-1000001 : Int32)) dc_X6_restore_9 tw_281 ?_
    exact gh_iret dc_X6_restore_11 hE rfl hw
theorem wk_X6_kind   (Q : Int32 → gh_M → Prop) (a0 : Int32) (M : gh_M) (hw : wp_X6_kind  a0 M Q) : gh_Calls 3 mi_X6_kind [vR 0 0, vI a0] M (gh_Qi Q) := by
  refine gh_of (by decide) rfl 0 rfl (L0 := [some (vR 0 0), some (vI a0)]) rfl (fun wd x hE => ?_)
  unfold wp_X6_kind at hw
  refine gh_aload_n dc_X6_kind_0 rfl ?_
  refine gh_iload_n dc_X6_kind_1 rfl ?_
  refine gh_callVi (mi' := mi_X6_isTrick) (as := [vI a0]) (S := []) (k := 0) (t := 0) dc_X6_kind_2 ml_RX6_159 ok_X6_isTrick rfl rfl (by decide) (Nat.le_of_ble_eq_true rfl) (by decide) (by decide) rfl rfl (wk_X6_isTrick _ _ _ hw) (fun r1 M2 hw => ?_)
  refine gh_if_eq (tgt := 20) dc_X6_kind_5 rfl (fun c3 => ?_) (fun c3 => ?_)
  · replace hw := hw.1 c3
    refine gh_ldc (v := (-1000001 : Int32)) dc_X6_kind_20 tw_281 ?_
    exact gh_iret dc_X6_kind_22 hE rfl hw
  · replace hw := hw.2 c3
    refine gh_aload_n dc_X6_kind_8 rfl ?_
    refine gh_getR (k := 0) (t := 0) dc_X6_kind_9 fl_RX6_25 (by decide) (by decide) rfl rfl ?_
    refine gh_getR (k := 6) (t := 0) dc_X6_kind_12 fl_RX6_313 (by decide) (by decide) rfl rfl ?_
    refine gh_iload_n dc_X6_kind_15 rfl ?_
    obtain ⟨h4, hw⟩ := hw
    refine gh_iald (k := 7) (t := 0) dc_X6_kind_16 rfl (by decide) (by decide) h4 ?_
    refine gh_goto (tgt := 22) dc_X6_kind_17 rfl ?_
    exact gh_iret dc_X6_kind_22 hE rfl hw
theorem lk_X1_isOfKind_4 {wd : gh_Wd} {x : gh_X} {Q : Int32 → gh_M → Prop}   (hE : gh_E wd (gh_Qi Q) x)   : ∀ (n : Nat) (x1 : Int32) (x2 : Int32) (x3 : Int32) (M : gh_M), wl_X1_isOfKind_4 Q n x1 x2 x3 M → gh_J mi_X1_isOfKind 1 wd x M 4 [none, some (vI x1), some (vI x2), some (vI x3)] [] := by
  intro n
  induction n with
  | zero => intro x1 x2 x3 M hw; exact hw.elim
  | succ n ih =>
    intro x1 x2 x3 M hw
    unfold wl_X1_isOfKind_4 at hw
    refine gh_iload_n dc_X1_isOfKind_4 rfl ?_
    refine gh_bipush (v := (nI 6)) dc_X1_isOfKind_5 gb_6 ?_
    refine gh_icmp_ge (tgt := 39) dc_X1_isOfKind_7 rfl (fun c1 => ?_) (fun c1 => ?_)
    · replace hw := hw.1 c1
      refine gh_iconst (v := (nI 0)) dc_X1_isOfKind_39 gc_0 ?_
      exact gh_zret dc_X1_isOfKind_40 hE rfl (by decide) hw
    · replace hw := hw.2 c1
      refine gh_iload_n dc_X1_isOfKind_10 rfl ?_
      refine gh_if_lt (tgt := 39) dc_X1_isOfKind_11 rfl (fun c2 => ?_) (fun c2 => ?_)
      · replace hw := hw.1 c2
        refine gh_iconst (v := (nI 0)) dc_X1_isOfKind_39 gc_0 ?_
        exact gh_zret dc_X1_isOfKind_40 hE rfl (by decide) hw
      · replace hw := hw.2 c2
        refine gh_iload_n dc_X1_isOfKind_14 rfl ?_
        refine gh_bipush (v := (nI 6)) dc_X1_isOfKind_15 gb_6 ?_
        refine gh_icmp_ge (tgt := 39) dc_X1_isOfKind_17 rfl (fun c3 => ?_) (fun c3 => ?_)
        · replace hw := hw.1 c3
          refine gh_iconst (v := (nI 0)) dc_X1_isOfKind_39 gc_0 ?_
          exact gh_zret dc_X1_isOfKind_40 hE rfl (by decide) hw
        · replace hw := hw.2 c3
          refine gh_iload_n dc_X1_isOfKind_20 rfl ?_
          refine gh_iload_n dc_X1_isOfKind_21 rfl ?_
          refine gh_icmp_ne (tgt := 27) dc_X1_isOfKind_22 rfl (fun c4 => ?_) (fun c4 => ?_)
          · replace hw := hw.1 c4
            refine gh_gets (i := 0) dc_X1_isOfKind_27 (by decide) tw_775 ?_
            refine gh_iload_n dc_X1_isOfKind_30 rfl ?_
            obtain ⟨h5, hw⟩ := hw
            refine gh_tald (i := 0) dc_X1_isOfKind_31 (by decide) h5 ?_
            obtain ⟨y2_6, ey2_6⟩ : ∃ z, z = (gh_tab 0 x2.toNatClampNeg) := ⟨_, rfl⟩
            rw [← ey2_6]
            replace hw := hw _ ey2_6
            refine gh_istore_n (L' := [none, some (vI x1), some (vI y2_6), some (vI x3)]) dc_X1_isOfKind_32 (by decide) rfl rfl ?_
            obtain ⟨y3_7, ey3_7⟩ : ∃ z, z = (x3 + (nI 1)) := ⟨_, rfl⟩
            replace hw := hw _ ey3_7
            refine gh_iinc (v := y3_7) (L' := [none, some (vI x1), some (vI y2_6), some (vI y3_7)]) dc_X1_isOfKind_33 rfl ((congrArg (fun z => x3 + z) gc_1).trans ey3_7.symm) (by decide) rfl rfl ?_
            refine gh_goto (tgt := 4) dc_X1_isOfKind_36 rfl ?_
            refine gh_drop (pc' := 0) [none, some (vI x1), some (vI y2_6), some (vI y3_7)] ⟨rfl, rfl, rfl, trivial⟩ ?_
            exact ih _ _ _ _ hw
          · replace hw := hw.2 c4
            refine gh_iconst (v := (nI 1)) dc_X1_isOfKind_25 gc_1 ?_
            exact gh_zret dc_X1_isOfKind_26 hE rfl (by decide) hw
theorem wk_X1_isOfKind   (Q : Int32 → gh_M → Prop) (a0 : Int32) (a1 : Int32) (M : gh_M) (hw : wp_X1_isOfKind  a0 a1 M Q) : gh_Calls 1 mi_X1_isOfKind [vI a0, vI a1] M (gh_Qi Q) := by
  refine gh_of (by decide) rfl 2 rfl (L0 := [some (vI a0), some (vI a1), none, none]) rfl (fun wd x hE => ?_)
  unfold wp_X1_isOfKind at hw
  refine gh_iload_n dc_X1_isOfKind_0 rfl ?_
  refine gh_istore_n (L' := [some (vI a0), some (vI a1), some (vI a0), none]) dc_X1_isOfKind_1 (by decide) rfl rfl ?_
  refine gh_iconst (v := (nI 0)) dc_X1_isOfKind_2 gc_0 ?_
  refine gh_istore_n (L' := [some (vI a0), some (vI a1), some (vI a0), some (vI (nI 0))]) dc_X1_isOfKind_3 (by decide) rfl rfl ?_
  refine gh_drop (pc' := 0) [none, some (vI a1), some (vI a0), some (vI (nI 0))] ⟨rfl, rfl, rfl, trivial⟩ ?_
  obtain ⟨k, hw⟩ := hw
  exact lk_X1_isOfKind_4  hE  k _ _ _ _ hw
theorem wk_X6_as   (Q : Int32 → gh_M → Prop) (a0 : Int32) (a1 : Int32) (M : gh_M) (hw : wp_X6_as  a0 a1 M Q) : gh_Calls 3 mi_X6_as [vR 0 0, vI a0, vI a1] M (gh_Qi Q) := by
  refine gh_of (by decide) rfl 0 rfl (L0 := [some (vR 0 0), some (vI a0), some (vI a1)]) rfl (fun wd x hE => ?_)
  unfold wp_X6_as at hw
  refine gh_aload_n dc_X6_as_0 rfl ?_
  refine gh_iload_n dc_X6_as_1 rfl ?_
  refine gh_callVi (mi' := mi_X6_isTrick) (as := [vI a0]) (S := []) (k := 0) (t := 0) dc_X6_as_2 ml_RX6_159 ok_X6_isTrick rfl rfl (by decide) (Nat.le_of_ble_eq_true rfl) (by decide) (by decide) rfl rfl (wk_X6_isTrick _ _ _ hw) (fun r1 M2 hw => ?_)
  refine gh_if_eq (tgt := 17) dc_X6_as_5 rfl (fun c3 => ?_) (fun c3 => ?_)
  · replace hw := hw.1 c3
    refine gh_ldc (v := (-1000001 : Int32)) dc_X6_as_17 tw_281 ?_
    exact gh_iret dc_X6_as_19 hE rfl hw
  · replace hw := hw.2 c3
    refine gh_iload_n dc_X6_as_8 rfl ?_
    refine gh_iconst (v := (nI 0)) dc_X6_as_9 gc_0 ?_
    refine gh_iconst (v := (nI 5)) dc_X6_as_10 gc_5 ?_
    refine gh_callSi (mi' := mi_X6_within) (as := [vI a1, vI (nI 0), vI (nI 5)]) (S := []) dc_X6_as_11 ml_RX6_62 ok_X6_within rfl rfl (by decide) (Nat.le_of_ble_eq_true rfl) (wk_X6_within _ _ _ _ _ hw) (fun r4 M5 hw => ?_)
    refine gh_if_ne (tgt := 20) dc_X6_as_14 rfl (fun c6 => ?_) (fun c6 => ?_)
    · replace hw := hw.1 c6
      refine gh_aload_n dc_X6_as_20 rfl ?_
      refine gh_getR (k := 0) (t := 0) dc_X6_as_21 fl_RX6_25 (by decide) (by decide) rfl rfl ?_
      refine gh_getR (k := 6) (t := 0) dc_X6_as_24 fl_RX6_313 (by decide) (by decide) rfl rfl ?_
      refine gh_iload_n dc_X6_as_27 rfl ?_
      obtain ⟨h7, hw⟩ := hw
      refine gh_iald (k := 7) (t := 0) dc_X6_as_28 rfl (by decide) (by decide) h7 ?_
      refine gh_iload_n dc_X6_as_29 rfl ?_
      refine gh_callSi (mi' := mi_X1_isOfKind) (as := [vI (M5 7 0 a0.toNatClampNeg), vI a1]) (S := []) dc_X6_as_30 ml_RX6_316 ok_X1_isOfKind rfl rfl (by decide) (Nat.le_of_ble_eq_true rfl) (wk_X1_isOfKind _ _ _ _ hw) (fun r8 M9 hw => ?_)
      refine gh_if_eq (tgt := 44) dc_X6_as_33 rfl (fun c10 => ?_) (fun c10 => ?_)
      · replace hw := hw.1 c10
        refine gh_aload_n dc_X6_as_44 rfl ?_
        refine gh_iconst (v := (nI 3)) dc_X6_as_45 gc_3 ?_
        refine gh_callVi (mi' := mi_X6_found) (as := [vI (nI 3)]) (S := []) (k := 0) (t := 0) dc_X6_as_46 ml_RX6_67 ok_X6_found rfl rfl (by decide) (Nat.le_of_ble_eq_true rfl) (by decide) (by decide) rfl rfl (wk_X6_found _ _ _ hw) (fun r11 M12 hw => ?_)
        exact gh_iret dc_X6_as_49 hE rfl hw
      · replace hw := hw.2 c10
        refine gh_aload_n dc_X6_as_36 rfl ?_
        refine gh_iload_n dc_X6_as_37 rfl ?_
        refine gh_callVi (mi' := mi_X6_fine) (as := [vI a0]) (S := []) (k := 0) (t := 0) dc_X6_as_38 ml_RX6_75 ok_X6_fine rfl rfl (by decide) (Nat.le_of_ble_eq_true rfl) (by decide) (by decide) rfl rfl (wk_X6_fine _ _ _ hw) (fun r13 M14 hw => ?_)
        refine gh_goto (tgt := 49) dc_X6_as_41 rfl ?_
        exact gh_iret dc_X6_as_49 hE rfl hw
    · replace hw := hw.2 c6
      refine gh_ldc (v := (-1000001 : Int32)) dc_X6_as_17 tw_281 ?_
      exact gh_iret dc_X6_as_19 hE rfl hw
theorem wk_X1_begins   (Q : gh_M → Prop) (a0 : Int32) (M : gh_M) (hw : wp_X1_begins  a0 M Q) : gh_Calls 1 mi_X1_begins [vR 30 0, vI a0] M (gh_Qv Q) := by
  refine gh_of (by decide) rfl 0 rfl (L0 := [some (vR 30 0), some (vI a0)]) rfl (fun wd x hE => ?_)
  unfold wp_X1_begins at hw
  refine gh_aload_n dc_X1_begins_0 rfl ?_
  refine gh_getI (k := 30) (t := 0) dc_X1_begins_1 fl_RX1_18 (by decide) (by decide) rfl rfl ?_
  refine gh_bipush (v := (nI 16)) dc_X1_begins_4 gb_16 ?_
  refine gh_icmp_ge (tgt := 29) dc_X1_begins_6 rfl (fun c1 => ?_) (fun c1 => ?_)
  · replace hw := hw.1 c1
    exact gh_vret dc_X1_begins_29 hE rfl hw
  · replace hw := hw.2 c1
    refine gh_aload_n dc_X1_begins_9 rfl ?_
    refine gh_getR (k := 30) (t := 0) dc_X1_begins_10 fl_RX1_9 (by decide) (by decide) rfl rfl ?_
    refine gh_aload_n dc_X1_begins_13 rfl ?_
    refine gh_getI (k := 30) (t := 0) dc_X1_begins_14 fl_RX1_18 (by decide) (by decide) rfl rfl ?_
    refine gh_iload_n dc_X1_begins_17 rfl ?_
    obtain ⟨h2, hw⟩ := hw
    refine gh_iast (k := 31) (t := 0) dc_X1_begins_18 rfl (by decide) (by decide) h2 ?_
    obtain ⟨M3, eM3⟩ : ∃ z, z = (gh_st M 31 0 (M 30 0 1).toNatClampNeg a0) := ⟨_, rfl⟩
    rw [← eM3]
    replace hw := hw _ eM3
    refine gh_aload_n dc_X1_begins_19 rfl ?_
    refine gh_dupR dc_X1_begins_20 ?_
    refine gh_getI (k := 30) (t := 0) dc_X1_begins_21 fl_RX1_18 (by decide) (by decide) rfl rfl ?_
    refine gh_iconst (v := (nI 1)) dc_X1_begins_24 gc_1 ?_
    refine gh_iadd dc_X1_begins_25 ?_
    refine gh_put (k := 30) (t := 0) dc_X1_begins_26 fl_RX1_18 (by decide) (by decide) rfl rfl (fun _ h => by cases h; rfl) rfl rfl ?_
    obtain ⟨M4, eM4⟩ : ∃ z, z = (gh_st M3 30 0 1 ((M3 30 0 1) + (nI 1))) := ⟨_, rfl⟩
    rw [← eM4]
    replace hw := hw _ eM4
    exact gh_vret dc_X1_begins_29 hE rfl hw
theorem wk_X1_give : ∀ (n : Nat) {t0 : Nat} (ht0 : t0 < 29) (Q : Int32 → gh_M → Prop) (a0 : Int32) (a1 : Int32) (a2 : Int32) (M : gh_M) (hw : wp_X1_give n t0 a0 a1 a2 M Q), gh_Calls (n + 2) mi_X1_give [vR 30 0, vR 6 t0, vI a0, vI a1, vI a2] M (gh_Qi Q) := by
  intro n
  induction n with
  | zero => intro t0 ht0 Q a0 a1 a2 M hw; exact hw.elim
  | succ n ih =>
    intro t0 ht0 Q a0 a1 a2 M hw
    refine gh_of (by decide) rfl 2 rfl (L0 := [some (vR 30 0), some (vR 6 t0), some (vI a0), some (vI a1), some (vI a2), none, none]) rfl (fun wd x hE => ?_)
    unfold wp_X1_give at hw
    refine gh_iload dc_X1_give_0 rfl ?_
    refine gh_bipush (v := (nI 16)) dc_X1_give_2 gb_16 ?_
    refine gh_icmp_le (tgt := 9) dc_X1_give_4 rfl (fun c1 => ?_) (fun c1 => ?_)
    · replace hw := hw.1 c1
      refine gh_aload_n dc_X1_give_9 rfl ?_
      refine gh_iload_n dc_X1_give_10 rfl ?_
      refine gh_callVv (mi' := mi_X1_begins) (as := [vI a1]) (S := []) (k := 30) (t := 0) dc_X1_give_11 ml_RX1_42 ok_X1_begins rfl rfl (by omega) (Nat.le_of_ble_eq_true rfl) (by decide) (by decide) rfl rfl (wk_X1_begins _ _ _ hw) (fun M3 hw => ?_)
      refine gh_aload_n dc_X1_give_14 rfl ?_
      refine gh_getR (k := 6) (t := t0) dc_X1_give_15 fl_RX1_22 (by decide) ht0 rfl rfl ?_
      refine gh_iload_n dc_X1_give_18 rfl ?_
      obtain ⟨h4, hw⟩ := hw
      refine gh_iald (k := 7) (t := t0) dc_X1_give_19 rfl (by decide) ht0 h4 ?_
      obtain ⟨y5_5, ey5_5⟩ : ∃ z, z = (M3 7 t0 a0.toNatClampNeg) := ⟨_, rfl⟩
      rw [← ey5_5]
      replace hw := hw _ ey5_5
      refine gh_istore (L' := [some (vR 30 0), some (vR 6 t0), some (vI a0), some (vI a1), some (vI a2), some (vI y5_5), none]) dc_X1_give_20 (by decide) rfl rfl ?_
      refine gh_iload dc_X1_give_22 rfl ?_
      refine gh_iconst (v := (nI 1)) dc_X1_give_24 gc_1 ?_
      refine gh_iadd dc_X1_give_25 ?_
      obtain ⟨y6_6, ey6_6⟩ : ∃ z, z = (a2 + (nI 1)) := ⟨_, rfl⟩
      rw [← ey6_6]
      replace hw := hw _ ey6_6
      refine gh_istore (L' := [some (vR 30 0), some (vR 6 t0), some (vI a0), some (vI a1), some (vI a2), some (vI y5_5), some (vI y6_6)]) dc_X1_give_26 (by decide) rfl rfl ?_
      refine gh_iload_n dc_X1_give_28 rfl ?_
      refine (Decidable.em (a1 = (nI 10))).elim (fun c7 => ?_) (fun c7 => ?_)
      · replace hw := hw.1 c7
        refine gh_tabIn (v := (nI 10)) (tgt := 104) dc_X1_give_29 c7 (by decide) (by decide) rfl rfl ?_
        refine gh_aload_n dc_X1_give_104 rfl ?_
        refine gh_getR (k := 6) (t := t0) dc_X1_give_105 fl_RX1_46 (by decide) ht0 rfl rfl ?_
        refine gh_iload_n dc_X1_give_108 rfl ?_
        obtain ⟨h8, hw⟩ := hw
        refine gh_iald (k := 9) (t := t0) dc_X1_give_109 rfl (by decide) ht0 h8 ?_
        exact gh_iret dc_X1_give_110 hE rfl hw
      · replace hw := hw.2 c7
        refine (Decidable.em (a1 = (nI 11))).elim (fun c9 => ?_) (fun c9 => ?_)
        · replace hw := hw.1 c9
          refine gh_tabIn (v := (nI 11)) (tgt := 111) dc_X1_give_29 c9 (by decide) (by decide) rfl rfl ?_
          refine gh_aload_n dc_X1_give_111 rfl ?_
          refine gh_aload_n dc_X1_give_112 rfl ?_
          refine gh_iload_n dc_X1_give_113 rfl ?_
          refine gh_bipush (v := (nI 10)) dc_X1_give_114 gb_10 ?_
          refine gh_iload dc_X1_give_116 rfl ?_
          refine gh_callSi (mi' := mi_X1_give) (as := [vR 30 0, vR 6 t0, vI a0, vI (nI 10), vI y6_6]) (S := []) dc_X1_give_118 ml_RX1_38 ok_X1_give rfl rfl (by omega) (Nat.le_of_ble_eq_true rfl) (ih ht0 _ _ _ _ _ hw) (fun r10 M11 hw => ?_)
          refine gh_aload_n dc_X1_give_121 rfl ?_
          refine gh_aload_n dc_X1_give_122 rfl ?_
          refine gh_iload_n dc_X1_give_123 rfl ?_
          refine gh_gets (i := 1) dc_X1_give_124 (by decide) tw_789 ?_
          refine gh_iload dc_X1_give_127 rfl ?_
          obtain ⟨h12, hw⟩ := hw
          refine gh_tald (i := 1) dc_X1_give_129 (by decide) h12 ?_
          refine gh_iload dc_X1_give_130 rfl ?_
          refine gh_callSi (mi' := mi_X1_give) (as := [vR 30 0, vR 6 t0, vI a0, vI (gh_tab 1 y5_5.toNatClampNeg), vI y6_6]) (S := [vI r10]) dc_X1_give_132 ml_RX1_38 ok_X1_give rfl rfl (by omega) (Nat.le_of_ble_eq_true rfl) (ih ht0 _ _ _ _ _ hw) (fun r13 M14 hw => ?_)
          refine gh_iadd dc_X1_give_135 ?_
          exact gh_iret dc_X1_give_136 hE rfl hw
        · replace hw := hw.2 c9
          refine (Decidable.em (a1 = (nI 12))).elim (fun c15 => ?_) (fun c15 => ?_)
          · replace hw := hw.1 c15
            refine gh_tabIn (v := (nI 12)) (tgt := 137) dc_X1_give_29 c15 (by decide) (by decide) rfl rfl ?_
            refine gh_iconst (v := (nI 0)) dc_X1_give_137 gc_0 ?_
            refine gh_aload_n dc_X1_give_138 rfl ?_
            refine gh_aload_n dc_X1_give_139 rfl ?_
            refine gh_iload_n dc_X1_give_140 rfl ?_
            refine gh_bipush (v := (nI 11)) dc_X1_give_141 gb_11 ?_
            refine gh_iload dc_X1_give_143 rfl ?_
            refine gh_callSi (mi' := mi_X1_give) (as := [vR 30 0, vR 6 t0, vI a0, vI (nI 11), vI y6_6]) (S := [vI (nI 0)]) dc_X1_give_145 ml_RX1_38 ok_X1_give rfl rfl (by omega) (Nat.le_of_ble_eq_true rfl) (ih ht0 _ _ _ _ _ hw) (fun r16 M17 hw => ?_)
            refine gh_isub dc_X1_give_148 ?_
            exact gh_iret dc_X1_give_149 hE rfl hw
          · replace hw := hw.2 c15
            refine (Decidable.em (a1 = (nI 13))).elim (fun c18 => ?_) (fun c18 => ?_)
            · replace hw := hw.1 c18
              refine gh_tabIn (v := (nI 13)) (tgt := 150) dc_X1_give_29 c18 (by decide) (by decide) rfl rfl ?_
              refine gh_aload_n dc_X1_give_150 rfl ?_
              refine gh_aload_n dc_X1_give_151 rfl ?_
              refine gh_iload_n dc_X1_give_152 rfl ?_
              refine gh_bipush (v := (nI 10)) dc_X1_give_153 gb_10 ?_
              refine gh_iload dc_X1_give_155 rfl ?_
              refine gh_callSi (mi' := mi_X1_give) (as := [vR 30 0, vR 6 t0, vI a0, vI (nI 10), vI y6_6]) (S := []) dc_X1_give_157 ml_RX1_38 ok_X1_give rfl rfl (by omega) (Nat.le_of_ble_eq_true rfl) (ih ht0 _ _ _ _ _ hw) (fun r19 M20 hw => ?_)
              refine gh_bipush (v := (nI 100)) dc_X1_give_160 gb_100 ?_
              refine gh_isub dc_X1_give_162 ?_
              exact gh_iret dc_X1_give_163 hE rfl hw
            · replace hw := hw.2 c18
              refine (Decidable.em (a1 = (nI 14))).elim (fun c21 => ?_) (fun c21 => ?_)
              · replace hw := hw.1 c21
                refine gh_tabIn (v := (nI 14)) (tgt := 164) dc_X1_give_29 c21 (by decide) (by decide) rfl rfl ?_
                refine gh_iconst (v := (nI 2)) dc_X1_give_164 gc_2 ?_
                refine gh_aload_n dc_X1_give_165 rfl ?_
                refine gh_aload_n dc_X1_give_166 rfl ?_
                refine gh_iload_n dc_X1_give_167 rfl ?_
                refine gh_bipush (v := (nI 13)) dc_X1_give_168 gb_13 ?_
                refine gh_iload dc_X1_give_170 rfl ?_
                refine gh_callSi (mi' := mi_X1_give) (as := [vR 30 0, vR 6 t0, vI a0, vI (nI 13), vI y6_6]) (S := [vI (nI 2)]) dc_X1_give_172 ml_RX1_38 ok_X1_give rfl rfl (by omega) (Nat.le_of_ble_eq_true rfl) (ih ht0 _ _ _ _ _ hw) (fun r22 M23 hw => ?_)
                refine gh_imul dc_X1_give_175 ?_
                exact gh_iret dc_X1_give_176 hE rfl hw
              · replace hw := hw.2 c21
                refine (Decidable.em (a1 = (nI 15))).elim (fun c24 => ?_) (fun c24 => ?_)
                · replace hw := hw.1 c24
                  refine gh_tabIn (v := (nI 15)) (tgt := 251) dc_X1_give_29 c24 (by decide) (by decide) rfl rfl ?_
                  refine gh_iconst (v := (nI 0)) dc_X1_give_251 gc_0 ?_
                  exact gh_iret dc_X1_give_252 hE rfl hw
                · replace hw := hw.2 c24
                  refine (Decidable.em (a1 = (nI 16))).elim (fun c25 => ?_) (fun c25 => ?_)
                  · replace hw := hw.1 c25
                    refine gh_tabIn (v := (nI 16)) (tgt := 251) dc_X1_give_29 c25 (by decide) (by decide) rfl rfl ?_
                    refine gh_iconst (v := (nI 0)) dc_X1_give_251 gc_0 ?_
                    exact gh_iret dc_X1_give_252 hE rfl hw
                  · replace hw := hw.2 c25
                    refine (Decidable.em (a1 = (nI 17))).elim (fun c26 => ?_) (fun c26 => ?_)
                    · replace hw := hw.1 c26
                      refine gh_tabIn (v := (nI 17)) (tgt := 251) dc_X1_give_29 c26 (by decide) (by decide) rfl rfl ?_
                      refine gh_iconst (v := (nI 0)) dc_X1_give_251 gc_0 ?_
                      exact gh_iret dc_X1_give_252 hE rfl hw
                    · replace hw := hw.2 c26
                      refine (Decidable.em (a1 = (nI 18))).elim (fun c27 => ?_) (fun c27 => ?_)
                      · replace hw := hw.1 c27
                        refine gh_tabIn (v := (nI 18)) (tgt := 251) dc_X1_give_29 c27 (by decide) (by decide) rfl rfl ?_
                        refine gh_iconst (v := (nI 0)) dc_X1_give_251 gc_0 ?_
                        exact gh_iret dc_X1_give_252 hE rfl hw
                      · replace hw := hw.2 c27
                        refine (Decidable.em (a1 = (nI 19))).elim (fun c28 => ?_) (fun c28 => ?_)
                        · replace hw := hw.1 c28
                          refine gh_tabIn (v := (nI 19)) (tgt := 251) dc_X1_give_29 c28 (by decide) (by decide) rfl rfl ?_
                          refine gh_iconst (v := (nI 0)) dc_X1_give_251 gc_0 ?_
                          exact gh_iret dc_X1_give_252 hE rfl hw
                        · replace hw := hw.2 c28
                          refine (Decidable.em (a1 = (nI 20))).elim (fun c29 => ?_) (fun c29 => ?_)
                          · replace hw := hw.1 c29
                            refine gh_tabIn (v := (nI 20)) (tgt := 177) dc_X1_give_29 c29 (by decide) (by decide) rfl rfl ?_
                            refine gh_iload_n dc_X1_give_177 rfl ?_
                            exact gh_iret dc_X1_give_178 hE rfl hw
                          · replace hw := hw.2 c29
                            refine (Decidable.em (a1 = (nI 21))).elim (fun c30 => ?_) (fun c30 => ?_)
                            · replace hw := hw.1 c30
                              refine gh_tabIn (v := (nI 21)) (tgt := 179) dc_X1_give_29 c30 (by decide) (by decide) rfl rfl ?_
                              refine gh_aload_n dc_X1_give_179 rfl ?_
                              refine gh_aload_n dc_X1_give_180 rfl ?_
                              refine gh_iload_n dc_X1_give_181 rfl ?_
                              refine gh_bipush (v := (nI 20)) dc_X1_give_182 gb_20 ?_
                              refine gh_iload dc_X1_give_184 rfl ?_
                              refine gh_callSi (mi' := mi_X1_give) (as := [vR 30 0, vR 6 t0, vI a0, vI (nI 20), vI y6_6]) (S := []) dc_X1_give_186 ml_RX1_38 ok_X1_give rfl rfl (by omega) (Nat.le_of_ble_eq_true rfl) (ih ht0 _ _ _ _ _ hw) (fun r31 M32 hw => ?_)
                              refine gh_aload_n dc_X1_give_189 rfl ?_
                              refine gh_getR (k := 6) (t := t0) dc_X1_give_190 fl_RX1_49 (by decide) ht0 rfl rfl ?_
                              refine gh_iload_n dc_X1_give_193 rfl ?_
                              obtain ⟨h33, hw⟩ := hw
                              refine gh_iald (k := 11) (t := t0) dc_X1_give_194 rfl (by decide) ht0 h33 ?_
                              refine gh_iadd dc_X1_give_195 ?_
                              exact gh_iret dc_X1_give_196 hE rfl hw
                            · replace hw := hw.2 c30
                              refine (Decidable.em (a1 = (nI 22))).elim (fun c34 => ?_) (fun c34 => ?_)
                              · replace hw := hw.1 c34
                                refine gh_tabIn (v := (nI 22)) (tgt := 197) dc_X1_give_29 c34 (by decide) (by decide) rfl rfl ?_
                                refine gh_aload_n dc_X1_give_197 rfl ?_
                                refine gh_aload_n dc_X1_give_198 rfl ?_
                                refine gh_iload_n dc_X1_give_199 rfl ?_
                                refine gh_bipush (v := (nI 21)) dc_X1_give_200 gb_21 ?_
                                refine gh_iload dc_X1_give_202 rfl ?_
                                refine gh_callSi (mi' := mi_X1_give) (as := [vR 30 0, vR 6 t0, vI a0, vI (nI 21), vI y6_6]) (S := []) dc_X1_give_204 ml_RX1_38 ok_X1_give rfl rfl (by omega) (Nat.le_of_ble_eq_true rfl) (ih ht0 _ _ _ _ _ hw) (fun r35 M36 hw => ?_)
                                refine gh_sipush (v := (nI 1000)) dc_X1_give_207 gs_1000 ?_
                                refine gh_isub dc_X1_give_210 ?_
                                exact gh_iret dc_X1_give_211 hE rfl hw
                              · replace hw := hw.2 c34
                                refine (Decidable.em (a1 = (nI 23))).elim (fun c37 => ?_) (fun c37 => ?_)
                                · replace hw := hw.1 c37
                                  refine gh_tabIn (v := (nI 23)) (tgt := 212) dc_X1_give_29 c37 (by decide) (by decide) rfl rfl ?_
                                  refine gh_aload_n dc_X1_give_212 rfl ?_
                                  refine gh_aload_n dc_X1_give_213 rfl ?_
                                  refine gh_iload_n dc_X1_give_214 rfl ?_
                                  refine gh_bipush (v := (nI 20)) dc_X1_give_215 gb_20 ?_
                                  refine gh_iload dc_X1_give_217 rfl ?_
                                  refine gh_callSi (mi' := mi_X1_give) (as := [vR 30 0, vR 6 t0, vI a0, vI (nI 20), vI y6_6]) (S := []) dc_X1_give_219 ml_RX1_38 ok_X1_give rfl rfl (by omega) (Nat.le_of_ble_eq_true rfl) (ih ht0 _ _ _ _ _ hw) (fun r38 M39 hw => ?_)
                                  refine gh_aload_n dc_X1_give_222 rfl ?_
                                  refine gh_aload_n dc_X1_give_223 rfl ?_
                                  refine gh_iload_n dc_X1_give_224 rfl ?_
                                  refine gh_gets (i := 2) dc_X1_give_225 (by decide) tw_787 ?_
                                  refine gh_iload dc_X1_give_228 rfl ?_
                                  obtain ⟨h40, hw⟩ := hw
                                  refine gh_tald (i := 2) dc_X1_give_230 (by decide) h40 ?_
                                  refine gh_iload dc_X1_give_231 rfl ?_
                                  refine gh_callSi (mi' := mi_X1_give) (as := [vR 30 0, vR 6 t0, vI a0, vI (gh_tab 2 y5_5.toNatClampNeg), vI y6_6]) (S := [vI r38]) dc_X1_give_233 ml_RX1_38 ok_X1_give rfl rfl (by omega) (Nat.le_of_ble_eq_true rfl) (ih ht0 _ _ _ _ _ hw) (fun r41 M42 hw => ?_)
                                  refine gh_isub dc_X1_give_236 ?_
                                  exact gh_iret dc_X1_give_237 hE rfl hw
                                · replace hw := hw.2 c37
                                  refine (Decidable.em (a1 = (nI 24))).elim (fun c43 => ?_) (fun c43 => ?_)
                                  · replace hw := hw.1 c43
                                    refine gh_tabIn (v := (nI 24)) (tgt := 238) dc_X1_give_29 c43 (by decide) (by decide) rfl rfl ?_
                                    refine gh_iconst (v := (nI 2)) dc_X1_give_238 gc_2 ?_
                                    refine gh_aload_n dc_X1_give_239 rfl ?_
                                    refine gh_aload_n dc_X1_give_240 rfl ?_
                                    refine gh_iload_n dc_X1_give_241 rfl ?_
                                    refine gh_bipush (v := (nI 21)) dc_X1_give_242 gb_21 ?_
                                    refine gh_iload dc_X1_give_244 rfl ?_
                                    refine gh_callSi (mi' := mi_X1_give) (as := [vR 30 0, vR 6 t0, vI a0, vI (nI 21), vI y6_6]) (S := [vI (nI 2)]) dc_X1_give_246 ml_RX1_38 ok_X1_give rfl rfl (by omega) (Nat.le_of_ble_eq_true rfl) (ih ht0 _ _ _ _ _ hw) (fun r44 M45 hw => ?_)
                                    refine gh_imul dc_X1_give_249 ?_
                                    exact gh_iret dc_X1_give_250 hE rfl hw
                                  · replace hw := hw.2 c43
                                    have q0 := lv_neT c7 (a := 10) (by decide)
                                    have q1 := lv_neT c9 (a := 11) (by decide)
                                    have q2 := lv_neT c15 (a := 12) (by decide)
                                    have q3 := lv_neT c18 (a := 13) (by decide)
                                    have q4 := lv_neT c21 (a := 14) (by decide)
                                    have q5 := lv_neT c24 (a := 15) (by decide)
                                    have q6 := lv_neT c25 (a := 16) (by decide)
                                    have q7 := lv_neT c26 (a := 17) (by decide)
                                    have q8 := lv_neT c27 (a := 18) (by decide)
                                    have q9 := lv_neT c28 (a := 19) (by decide)
                                    have q10 := lv_neT c29 (a := 20) (by decide)
                                    have q11 := lv_neT c30 (a := 21) (by decide)
                                    have q12 := lv_neT c34 (a := 22) (by decide)
                                    have q13 := lv_neT c37 (a := 23) (by decide)
                                    have q14 := lv_neT c43 (a := 24) (by decide)
                                    refine gh_tabOut (tgt := 251) dc_X1_give_29 (by omega) rfl ?_
                                    refine gh_iconst (v := (nI 0)) dc_X1_give_251 gc_0 ?_
                                    exact gh_iret dc_X1_give_252 hE rfl hw
    · replace hw := hw.2 c1
      refine gh_iconst (v := (nI 0)) dc_X1_give_7 gc_0 ?_
      exact gh_iret dc_X1_give_8 hE rfl hw
theorem wk_X1_answer {t0 : Nat} (ht0 : t0 < 29) (Q : Int32 → gh_M → Prop) (a0 : Int32) (a1 : Int32) (M : gh_M) (hw : wp_X1_answer t0 a0 a1 M Q) : gh_Calls 23 mi_X1_answer [vR 30 0, vR 6 t0, vI a0, vI a1] M (gh_Qi Q) := by
  refine gh_of (by decide) rfl 1 rfl (L0 := [some (vR 30 0), some (vR 6 t0), some (vI a0), some (vI a1), none]) rfl (fun wd x hE => ?_)
  unfold wp_X1_answer at hw
  refine gh_aload_n dc_X1_answer_0 rfl ?_
  refine gh_iconst (v := (nI 0)) dc_X1_answer_1 gc_0 ?_
  refine gh_put (k := 30) (t := 0) dc_X1_answer_2 fl_RX1_18 (by decide) (by decide) rfl rfl (fun _ h => by cases h; rfl) rfl rfl ?_
  obtain ⟨M1, eM1⟩ : ∃ z, z = (gh_st M 30 0 1 (nI 0)) := ⟨_, rfl⟩
  rw [← eM1]
  replace hw := hw _ eM1
  refine gh_aload_n dc_X1_answer_5 rfl ?_
  refine gh_getR (k := 6) (t := t0) dc_X1_answer_6 fl_RX1_22 (by decide) ht0 rfl rfl ?_
  refine gh_iload_n dc_X1_answer_9 rfl ?_
  obtain ⟨h2, hw⟩ := hw
  refine gh_iald (k := 7) (t := t0) dc_X1_answer_10 rfl (by decide) ht0 h2 ?_
  obtain ⟨y4_3, ey4_3⟩ : ∃ z, z = (M1 7 t0 a0.toNatClampNeg) := ⟨_, rfl⟩
  rw [← ey4_3]
  replace hw := hw _ ey4_3
  refine gh_istore (L' := [some (vR 30 0), some (vR 6 t0), some (vI a0), some (vI a1), some (vI y4_3)]) dc_X1_answer_11 (by decide) rfl rfl ?_
  refine gh_iload dc_X1_answer_13 rfl ?_
  refine gh_iconst (v := (nI 0)) dc_X1_answer_15 gc_0 ?_
  refine gh_iconst (v := (nI 5)) dc_X1_answer_16 gc_5 ?_
  refine gh_callSi (mi' := mi_X6_within) (as := [vI y4_3, vI (nI 0), vI (nI 5)]) (S := []) dc_X1_answer_17 ml_RX1_27 ok_X6_within rfl rfl (by decide) (Nat.le_of_ble_eq_true rfl) (wk_X6_within _ _ _ _ _ hw) (fun r4 M5 hw => ?_)
  refine gh_if_ne (tgt := 26) dc_X1_answer_20 rfl (fun c6 => ?_) (fun c6 => ?_)
  · replace hw := hw.1 c6
    refine gh_aload_n dc_X1_answer_26 rfl ?_
    refine gh_aload_n dc_X1_answer_27 rfl ?_
    refine gh_iload_n dc_X1_answer_28 rfl ?_
    refine gh_iload_n dc_X1_answer_29 rfl ?_
    refine gh_if_ne (tgt := 42) dc_X1_answer_30 rfl (fun c7 => ?_) (fun c7 => ?_)
    · replace hw := hw.1 c7
      refine gh_gets (i := 1) dc_X1_answer_42 (by decide) tw_789 ?_
      refine gh_iload dc_X1_answer_45 rfl ?_
      obtain ⟨h8, hw⟩ := hw
      refine gh_tald (i := 1) dc_X1_answer_47 (by decide) h8 ?_
      refine gh_iconst (v := (nI 0)) dc_X1_answer_48 gc_0 ?_
      refine gh_callSi (mi' := mi_X1_give) (as := [vR 30 0, vR 6 t0, vI a0, vI (gh_tab 1 y4_3.toNatClampNeg), vI (nI 0)]) (S := []) dc_X1_answer_49 ml_RX1_38 ok_X1_give rfl rfl (by decide) (Nat.le_of_ble_eq_true rfl) (wk_X1_give 20 ht0 _ _ _ _ _ hw) (fun r9 M10 hw => ?_)
      exact gh_iret dc_X1_answer_52 hE rfl hw
    · replace hw := hw.2 c7
      refine gh_gets (i := 2) dc_X1_answer_33 (by decide) tw_787 ?_
      refine gh_iload dc_X1_answer_36 rfl ?_
      obtain ⟨h11, hw⟩ := hw
      refine gh_tald (i := 2) dc_X1_answer_38 (by decide) h11 ?_
      refine gh_goto (tgt := 48) dc_X1_answer_39 rfl ?_
      refine gh_iconst (v := (nI 0)) dc_X1_answer_48 gc_0 ?_
      refine gh_callSi (mi' := mi_X1_give) (as := [vR 30 0, vR 6 t0, vI a0, vI (gh_tab 2 y4_3.toNatClampNeg), vI (nI 0)]) (S := []) dc_X1_answer_49 ml_RX1_38 ok_X1_give rfl rfl (by decide) (Nat.le_of_ble_eq_true rfl) (wk_X1_give 20 ht0 _ _ _ _ _ hw) (fun r12 M13 hw => ?_)
      exact gh_iret dc_X1_answer_52 hE rfl hw
  · replace hw := hw.2 c6
    refine gh_ldc (v := (-1000000 : Int32)) dc_X1_answer_23 tw_786 ?_
    exact gh_iret dc_X1_answer_25 hE rfl hw
theorem wk_X6_ask   (Q : Int32 → gh_M → Prop) (a0 : Int32) (a1 : Int32) (M : gh_M) (hw : wp_X6_ask  a0 a1 M Q) : gh_Calls 24 mi_X6_ask [vR 0 0, vI a0, vI a1] M (gh_Qi Q) := by
  refine gh_of (by decide) rfl 0 rfl (L0 := [some (vR 0 0), some (vI a0), some (vI a1)]) rfl (fun wd x hE => ?_)
  unfold wp_X6_ask at hw
  refine gh_aload_n dc_X6_ask_0 rfl ?_
  refine gh_iload_n dc_X6_ask_1 rfl ?_
  refine gh_callVi (mi' := mi_X6_isTrick) (as := [vI a0]) (S := []) (k := 0) (t := 0) dc_X6_ask_2 ml_RX6_159 ok_X6_isTrick rfl rfl (by decide) (Nat.le_of_ble_eq_true rfl) (by decide) (by decide) rfl rfl (wk_X6_isTrick _ _ _ hw) (fun r1 M2 hw => ?_)
  refine gh_if_eq (tgt := 17) dc_X6_ask_5 rfl (fun c3 => ?_) (fun c3 => ?_)
  · replace hw := hw.1 c3
    refine gh_ldc (v := (-1000001 : Int32)) dc_X6_ask_17 tw_281 ?_
    exact gh_iret dc_X6_ask_19 hE rfl hw
  · replace hw := hw.2 c3
    refine gh_iload_n dc_X6_ask_8 rfl ?_
    refine gh_iconst (v := (nI 0)) dc_X6_ask_9 gc_0 ?_
    refine gh_iconst (v := (nI 1)) dc_X6_ask_10 gc_1 ?_
    refine gh_callSi (mi' := mi_X6_within) (as := [vI a1, vI (nI 0), vI (nI 1)]) (S := []) dc_X6_ask_11 ml_RX6_62 ok_X6_within rfl rfl (by decide) (Nat.le_of_ble_eq_true rfl) (wk_X6_within _ _ _ _ _ hw) (fun r4 M5 hw => ?_)
    refine gh_if_ne (tgt := 20) dc_X6_ask_14 rfl (fun c6 => ?_) (fun c6 => ?_)
    · replace hw := hw.1 c6
      refine gh_aload_n dc_X6_ask_20 rfl ?_
      refine gh_getR (k := 0) (t := 0) dc_X6_ask_21 fl_RX6_53 (by decide) (by decide) rfl rfl ?_
      refine gh_aload_n dc_X6_ask_24 rfl ?_
      refine gh_getR (k := 0) (t := 0) dc_X6_ask_25 fl_RX6_25 (by decide) (by decide) rfl rfl ?_
      refine gh_iload_n dc_X6_ask_28 rfl ?_
      refine gh_iload_n dc_X6_ask_29 rfl ?_
      refine gh_callVi (mi' := mi_X1_answer) (as := [vR 6 0, vI a0, vI a1]) (S := []) (k := 30) (t := 0) dc_X6_ask_30 ml_RX6_319 ok_X1_answer rfl rfl (by decide) (Nat.le_of_ble_eq_true rfl) (by decide) (by decide) rfl rfl (wk_X1_answer (by decide) _ _ _ _ hw) (fun r7 M8 hw => ?_)
      exact gh_iret dc_X6_ask_33 hE rfl hw
    · replace hw := hw.2 c6
      refine gh_ldc (v := (-1000001 : Int32)) dc_X6_ask_17 tw_281 ?_
      exact gh_iret dc_X6_ask_19 hE rfl hw
theorem wk_X6_trace   (Q : Int32 → gh_M → Prop) (a0 : Int32) (M : gh_M) (hw : wp_X6_trace  a0 M Q) : gh_Calls 2 mi_X6_trace [vR 0 0, vI a0] M (gh_Qi Q) := by
  refine gh_of (by decide) rfl 0 rfl (L0 := [some (vR 0 0), some (vI a0)]) rfl (fun wd x hE => ?_)
  unfold wp_X6_trace at hw
  refine gh_iload_n dc_X6_trace_0 rfl ?_
  refine gh_iconst (v := (nI 0)) dc_X6_trace_1 gc_0 ?_
  refine gh_aload_n dc_X6_trace_2 rfl ?_
  refine gh_getR (k := 0) (t := 0) dc_X6_trace_3 fl_RX6_53 (by decide) (by decide) rfl rfl ?_
  refine gh_getI (k := 30) (t := 0) dc_X6_trace_6 fl_RX6_322 (by decide) (by decide) rfl rfl ?_
  refine gh_iconst (v := (nI 1)) dc_X6_trace_9 gc_1 ?_
  refine gh_isub dc_X6_trace_10 ?_
  refine gh_callSi (mi' := mi_X6_within) (as := [vI a0, vI (nI 0), vI ((M 30 0 1) - (nI 1))]) (S := []) dc_X6_trace_11 ml_RX6_62 ok_X6_within rfl rfl (by decide) (Nat.le_of_ble_eq_true rfl) (wk_X6_within _ _ _ _ _ hw) (fun r1 M2 hw => ?_)
  refine gh_if_eq (tgt := 29) dc_X6_trace_14 rfl (fun c3 => ?_) (fun c3 => ?_)
  · replace hw := hw.1 c3
    refine gh_ldc (v := (-1000000 : Int32)) dc_X6_trace_29 tw_508 ?_
    exact gh_iret dc_X6_trace_31 hE rfl hw
  · replace hw := hw.2 c3
    refine gh_aload_n dc_X6_trace_17 rfl ?_
    refine gh_getR (k := 0) (t := 0) dc_X6_trace_18 fl_RX6_53 (by decide) (by decide) rfl rfl ?_
    refine gh_getR (k := 30) (t := 0) dc_X6_trace_21 fl_RX6_325 (by decide) (by decide) rfl rfl ?_
    refine gh_iload_n dc_X6_trace_24 rfl ?_
    obtain ⟨h4, hw⟩ := hw
    refine gh_iald (k := 31) (t := 0) dc_X6_trace_25 rfl (by decide) (by decide) h4 ?_
    refine gh_goto (tgt := 31) dc_X6_trace_26 rfl ?_
    exact gh_iret dc_X6_trace_31 hE rfl hw
theorem lk_X6_rowsThere_4 {wd : gh_Wd} {x : gh_X} {Q : Int32 → gh_M → Prop}   (hE : gh_E wd (gh_Qi Q) x)   : ∀ (n : Nat) (x1 : Int32) (x2 : Int32) (M : gh_M), wl_X6_rowsThere_4 Q n x1 x2 M → gh_J mi_X6_rowsThere 2 wd x M 4 [some (vR 0 0), some (vI x1), some (vI x2)] [] := by
  intro n
  induction n with
  | zero => intro x1 x2 M hw; exact hw.elim
  | succ n ih =>
    intro x1 x2 M hw
    unfold wl_X6_rowsThere_4 at hw
    refine gh_iload_n dc_X6_rowsThere_4 rfl ?_
    refine gh_bipush (v := (nI 8)) dc_X6_rowsThere_5 gb_8 ?_
    refine gh_icmp_ge (tgt := 31) dc_X6_rowsThere_7 rfl (fun c1 => ?_) (fun c1 => ?_)
    · replace hw := hw.1 c1
      refine gh_iload_n dc_X6_rowsThere_31 rfl ?_
      exact gh_iret dc_X6_rowsThere_32 hE rfl hw
    · replace hw := hw.2 c1
      refine gh_iload_n dc_X6_rowsThere_10 rfl ?_
      refine gh_aload_n dc_X6_rowsThere_11 rfl ?_
      refine gh_getR (k := 0) (t := 0) dc_X6_rowsThere_12 fl_RX6_11 (by decide) (by decide) rfl rfl ?_
      refine gh_iload_n dc_X6_rowsThere_15 rfl ?_
      obtain ⟨h2, hw⟩ := hw
      refine gh_aald (k := 1) (t := 0) (a := 0) dc_X6_rowsThere_16 rfl (by decide) (by decide) (by decide) h2 rfl ?_
      have bj3 := gh_cl h2
      obtain ⟨j3, ej3⟩ : ∃ z, x2.toNatClampNeg = z := ⟨_, rfl⟩
      rw [ej3]
      rw [ej3] at bj3
      replace hw := hw _ bj3 ej3
      refine gh_getI (k := 2) (t := j3) dc_X6_rowsThere_17 fl_RX6_78 (by decide) (show j3 < 8 by omega) rfl rfl ?_
      refine gh_callSi (mi' := mi_X6_oneIf) (as := [vI (M 2 j3 0)]) (S := [vI x1]) dc_X6_rowsThere_20 ml_RX6_172 ok_X6_oneIf rfl rfl (by decide) (Nat.le_of_ble_eq_true rfl) (wk_X6_oneIf _ _ _ hw) (fun r4 M5 hw => ?_)
      refine gh_iadd dc_X6_rowsThere_23 ?_
      obtain ⟨y1_6, ey1_6⟩ : ∃ z, z = (x1 + r4) := ⟨_, rfl⟩
      rw [← ey1_6]
      replace hw := hw _ ey1_6
      refine gh_istore_n (L' := [some (vR 0 0), some (vI y1_6), some (vI x2)]) dc_X6_rowsThere_24 (by decide) rfl rfl ?_
      obtain ⟨y2_7, ey2_7⟩ : ∃ z, z = (x2 + (nI 1)) := ⟨_, rfl⟩
      replace hw := hw _ ey2_7
      refine gh_iinc (v := y2_7) (L' := [some (vR 0 0), some (vI y1_6), some (vI y2_7)]) dc_X6_rowsThere_25 rfl ((congrArg (fun z => x2 + z) gc_1).trans ey2_7.symm) (by decide) rfl rfl ?_
      refine gh_goto (tgt := 4) dc_X6_rowsThere_28 rfl ?_
      refine gh_drop (pc' := 0) [some (vR 0 0), some (vI y1_6), some (vI y2_7)] ⟨rfl, rfl, rfl, trivial⟩ ?_
      exact ih _ _ _ hw
theorem wk_X6_rowsThere   (Q : Int32 → gh_M → Prop)  (M : gh_M) (hw : wp_X6_rowsThere   M Q) : gh_Calls 2 mi_X6_rowsThere [vR 0 0] M (gh_Qi Q) := by
  refine gh_of (by decide) rfl 2 rfl (L0 := [some (vR 0 0), none, none]) rfl (fun wd x hE => ?_)
  unfold wp_X6_rowsThere at hw
  refine gh_iconst (v := (nI 0)) dc_X6_rowsThere_0 gc_0 ?_
  refine gh_istore_n (L' := [some (vR 0 0), some (vI (nI 0)), none]) dc_X6_rowsThere_1 (by decide) rfl rfl ?_
  refine gh_iconst (v := (nI 0)) dc_X6_rowsThere_2 gc_0 ?_
  refine gh_istore_n (L' := [some (vR 0 0), some (vI (nI 0)), some (vI (nI 0))]) dc_X6_rowsThere_3 (by decide) rfl rfl ?_
  refine gh_drop (pc' := 0) [some (vR 0 0), some (vI (nI 0)), some (vI (nI 0))] ⟨rfl, rfl, rfl, trivial⟩ ?_
  obtain ⟨k, hw⟩ := hw
  exact lk_X6_rowsThere_4  hE  k _ _ _ hw
theorem wk_X6_count   (Q : Int32 → gh_M → Prop) (a0 : Int32) (M : gh_M) (hw : wp_X6_count  a0 M Q) : gh_Calls 4 mi_X6_count [vR 0 0, vI a0] M (gh_Qi Q) := by
  refine gh_of (by decide) rfl 0 rfl (L0 := [some (vR 0 0), some (vI a0)]) rfl (fun wd x hE => ?_)
  unfold wp_X6_count at hw
  refine gh_iload_n dc_X6_count_0 rfl ?_
  refine (Decidable.em (a0 = (nI 0))).elim (fun c1 => ?_) (fun c1 => ?_)
  · replace hw := hw.1 c1
    refine gh_tabIn (v := (nI 0)) (tgt := 52) dc_X6_count_1 c1 (by decide) (by decide) rfl rfl ?_
    refine gh_aload_n dc_X6_count_52 rfl ?_
    refine gh_callVi (mi' := mi_X6_rowsThere) (as := []) (S := []) (k := 0) (t := 0) dc_X6_count_53 ml_RX6_328 ok_X6_rowsThere rfl rfl (by decide) (Nat.le_of_ble_eq_true rfl) (by decide) (by decide) rfl rfl (wk_X6_rowsThere _ _ hw) (fun r2 M3 hw => ?_)
    exact gh_iret dc_X6_count_56 hE rfl hw
  · replace hw := hw.2 c1
    refine (Decidable.em (a0 = (nI 1))).elim (fun c4 => ?_) (fun c4 => ?_)
    · replace hw := hw.1 c4
      refine gh_tabIn (v := (nI 1)) (tgt := 57) dc_X6_count_1 c4 (by decide) (by decide) rfl rfl ?_
      refine gh_aload_n dc_X6_count_57 rfl ?_
      refine gh_getR (k := 0) (t := 0) dc_X6_count_58 fl_RX6_25 (by decide) (by decide) rfl rfl ?_
      refine gh_getI (k := 6) (t := 0) dc_X6_count_61 fl_RX6_129 (by decide) (by decide) rfl rfl ?_
      exact gh_iret dc_X6_count_64 hE rfl hw
    · replace hw := hw.2 c4
      refine (Decidable.em (a0 = (nI 2))).elim (fun c5 => ?_) (fun c5 => ?_)
      · replace hw := hw.1 c5
        refine gh_tabIn (v := (nI 2)) (tgt := 65) dc_X6_count_1 c5 (by decide) (by decide) rfl rfl ?_
        refine gh_aload_n dc_X6_count_65 rfl ?_
        refine gh_getR (k := 0) (t := 0) dc_X6_count_66 fl_RX6_25 (by decide) (by decide) rfl rfl ?_
        refine gh_getI (k := 6) (t := 0) dc_X6_count_69 fl_RX6_247 (by decide) (by decide) rfl rfl ?_
        exact gh_iret dc_X6_count_72 hE rfl hw
      · replace hw := hw.2 c5
        refine (Decidable.em (a0 = (nI 3))).elim (fun c6 => ?_) (fun c6 => ?_)
        · replace hw := hw.1 c6
          refine gh_tabIn (v := (nI 3)) (tgt := 73) dc_X6_count_1 c6 (by decide) (by decide) rfl rfl ?_
          refine gh_aload_n dc_X6_count_73 rfl ?_
          refine gh_getR (k := 0) (t := 0) dc_X6_count_74 fl_RX6_25 (by decide) (by decide) rfl rfl ?_
          refine gh_getI (k := 6) (t := 0) dc_X6_count_77 fl_RX6_146 (by decide) (by decide) rfl rfl ?_
          exact gh_iret dc_X6_count_80 hE rfl hw
        · replace hw := hw.2 c6
          refine (Decidable.em (a0 = (nI 4))).elim (fun c7 => ?_) (fun c7 => ?_)
          · replace hw := hw.1 c7
            refine gh_tabIn (v := (nI 4)) (tgt := 81) dc_X6_count_1 c7 (by decide) (by decide) rfl rfl ?_
            refine gh_aload_n dc_X6_count_81 rfl ?_
            refine gh_getR (k := 0) (t := 0) dc_X6_count_82 fl_RX6_25 (by decide) (by decide) rfl rfl ?_
            refine gh_callVi (mi' := mi_X5_bitsOut) (as := []) (S := []) (k := 6) (t := 0) dc_X6_count_85 ml_RX6_155 ok_X5_bitsOut rfl rfl (by decide) (Nat.le_of_ble_eq_true rfl) (by decide) (by decide) rfl rfl (wk_X5_bitsOut (by decide) _ _ hw) (fun r8 M9 hw => ?_)
            refine gh_callSi (mi' := mi_J6_bitCount_0f7a4) (as := [vI r8]) (S := []) dc_X6_count_88 ml_RX6_268 ok_J6_bitCount_0f7a4 rfl rfl (by decide) (Nat.le_of_ble_eq_true rfl) (wk_J6_bitCount_0f7a4 _ _ _ hw) (fun r10 M11 hw => ?_)
            exact gh_iret dc_X6_count_91 hE rfl hw
          · replace hw := hw.2 c7
            refine (Decidable.em (a0 = (nI 5))).elim (fun c12 => ?_) (fun c12 => ?_)
            · replace hw := hw.1 c12
              refine gh_tabIn (v := (nI 5)) (tgt := 92) dc_X6_count_1 c12 (by decide) (by decide) rfl rfl ?_
              refine gh_aload_n dc_X6_count_92 rfl ?_
              refine gh_getR (k := 0) (t := 0) dc_X6_count_93 fl_RX6_25 (by decide) (by decide) rfl rfl ?_
              refine gh_callVi (mi' := mi_X5_allScreams) (as := []) (S := []) (k := 6) (t := 0) dc_X6_count_96 ml_RX6_233 ok_X5_allScreams rfl rfl (by decide) (Nat.le_of_ble_eq_true rfl) (by decide) (by decide) rfl rfl (wk_X5_allScreams (by decide) _ _ hw) (fun r13 M14 hw => ?_)
              exact gh_iret dc_X6_count_99 hE rfl hw
            · replace hw := hw.2 c12
              refine (Decidable.em (a0 = (nI 6))).elim (fun c15 => ?_) (fun c15 => ?_)
              · replace hw := hw.1 c15
                refine gh_tabIn (v := (nI 6)) (tgt := 100) dc_X6_count_1 c15 (by decide) (by decide) rfl rfl ?_
                refine gh_aload_n dc_X6_count_100 rfl ?_
                refine gh_getR (k := 0) (t := 0) dc_X6_count_101 fl_RX6_25 (by decide) (by decide) rfl rfl ?_
                refine gh_callVi (mi' := mi_X5_allFear) (as := []) (S := []) (k := 6) (t := 0) dc_X6_count_104 ml_RX6_331 ok_X5_allFear rfl rfl (by decide) (Nat.le_of_ble_eq_true rfl) (by decide) (by decide) rfl rfl (wk_X5_allFear (by decide) _ _ hw) (fun r16 M17 hw => ?_)
                exact gh_iret dc_X6_count_107 hE rfl hw
              · replace hw := hw.2 c15
                refine (Decidable.em (a0 = (nI 7))).elim (fun c18 => ?_) (fun c18 => ?_)
                · replace hw := hw.1 c18
                  refine gh_tabIn (v := (nI 7)) (tgt := 108) dc_X6_count_1 c18 (by decide) (by decide) rfl rfl ?_
                  refine gh_aload_n dc_X6_count_108 rfl ?_
                  refine gh_getR (k := 0) (t := 0) dc_X6_count_109 fl_RX6_35 (by decide) (by decide) rfl rfl ?_
                  refine gh_getI (k := 21) (t := 0) dc_X6_count_112 fl_RX6_132 (by decide) (by decide) rfl rfl ?_
                  exact gh_iret dc_X6_count_115 hE rfl hw
                · replace hw := hw.2 c18
                  refine (Decidable.em (a0 = (nI 8))).elim (fun c19 => ?_) (fun c19 => ?_)
                  · replace hw := hw.1 c19
                    refine gh_tabIn (v := (nI 8)) (tgt := 116) dc_X6_count_1 c19 (by decide) (by decide) rfl rfl ?_
                    refine gh_aload_n dc_X6_count_116 rfl ?_
                    refine gh_getR (k := 0) (t := 0) dc_X6_count_117 fl_RX6_18 (by decide) (by decide) rfl rfl ?_
                    refine gh_getI (k := 4) (t := 0) dc_X6_count_120 fl_RX6_106 (by decide) (by decide) rfl rfl ?_
                    exact gh_iret dc_X6_count_123 hE rfl hw
                  · replace hw := hw.2 c19
                    have q0 := lv_neT c1 (a := 0) (by decide)
                    have q1 := lv_neT c4 (a := 1) (by decide)
                    have q2 := lv_neT c5 (a := 2) (by decide)
                    have q3 := lv_neT c6 (a := 3) (by decide)
                    have q4 := lv_neT c7 (a := 4) (by decide)
                    have q5 := lv_neT c12 (a := 5) (by decide)
                    have q6 := lv_neT c15 (a := 6) (by decide)
                    have q7 := lv_neT c18 (a := 7) (by decide)
                    have q8 := lv_neT c19 (a := 8) (by decide)
                    refine gh_tabOut (tgt := 124) dc_X6_count_1 (by omega) rfl ?_
                    refine gh_ldc (v := (-1000001 : Int32)) dc_X6_count_124 tw_281 ?_
                    exact gh_iret dc_X6_count_126 hE rfl hw
theorem wk_X6_status   (Q : Int32 → gh_M → Prop)  (M : gh_M) (hw : wp_X6_status   M Q) : gh_Calls 1 mi_X6_status [vR 0 0] M (gh_Qi Q) := by
  refine gh_of (by decide) rfl 0 rfl (L0 := [some (vR 0 0)]) rfl (fun wd x hE => ?_)
  unfold wp_X6_status at hw
  refine gh_aload_n dc_X6_status_0 rfl ?_
  refine gh_getI (k := 0) (t := 0) dc_X6_status_1 fl_RX6_334 (by decide) (by decide) rfl rfl ?_
  exact gh_iret dc_X6_status_4 hE rfl hw
