-- by program: the walks of the reference
theorem wk_X7_in   (Q : Int32 → gh_M → Prop) (a0 : Int32) (a1 : Int32) (a2 : Int32) (M : gh_M) (hw : wp_X7_in  a0 a1 a2 M Q) : gh_Calls 1 mi_X7_in [vI a0, vI a1, vI a2] M (gh_Qi Q) := by
  refine gh_of (by decide) rfl 0 rfl (L0 := [some (vI a0), some (vI a1), some (vI a2)]) rfl (fun wd x hE => ?_)
  unfold wp_X7_in at hw
  refine gh_iload_n dc_X7_in_0 rfl ?_
  refine gh_iload_n dc_X7_in_1 rfl ?_
  refine gh_icmp_lt (tgt := 14) dc_X7_in_2 rfl (fun c1 => ?_) (fun c1 => ?_)
  · replace hw := hw.1 c1
    refine gh_iconst (v := (nI 0)) dc_X7_in_14 gc_0 ?_
    exact gh_zret dc_X7_in_15 hE rfl (by decide) hw
  · replace hw := hw.2 c1
    refine gh_iload_n dc_X7_in_5 rfl ?_
    refine gh_iload_n dc_X7_in_6 rfl ?_
    refine gh_icmp_gt (tgt := 14) dc_X7_in_7 rfl (fun c2 => ?_) (fun c2 => ?_)
    · replace hw := hw.1 c2
      refine gh_iconst (v := (nI 0)) dc_X7_in_14 gc_0 ?_
      exact gh_zret dc_X7_in_15 hE rfl (by decide) hw
    · replace hw := hw.2 c2
      refine gh_iconst (v := (nI 1)) dc_X7_in_10 gc_1 ?_
      refine gh_goto (tgt := 15) dc_X7_in_11 rfl ?_
      exact gh_zret dc_X7_in_15 hE rfl (by decide) hw
theorem wk_X7_isRow   (Q : Int32 → gh_M → Prop) (a0 : Int32) (M : gh_M) (hw : wp_X7_isRow  a0 M Q) : gh_Calls 2 mi_X7_isRow [vI a0] M (gh_Qi Q) := by
  refine gh_of (by decide) rfl 0 rfl (L0 := [some (vI a0)]) rfl (fun wd x hE => ?_)
  unfold wp_X7_isRow at hw
  refine gh_iload_n dc_X7_isRow_0 rfl ?_
  refine gh_iconst (v := (nI 0)) dc_X7_isRow_1 gc_0 ?_
  refine gh_bipush (v := (nI 7)) dc_X7_isRow_2 gb_7 ?_
  refine gh_callSi (mi' := mi_X7_in) (as := [vI a0, vI (nI 0), vI (nI 7)]) (S := []) dc_X7_isRow_4 ml_RX7_51 ok_X7_in rfl rfl (by decide) (Nat.le_of_ble_eq_true rfl) (wk_X7_in _ _ _ _ _ hw) (fun r1 M2 hw => ?_)
  exact gh_zret dc_X7_isRow_7 hE rfl hw.1 hw.2
theorem wk_X7_well   (Q : Int32 → gh_M → Prop) (a0 : Int32) (M : gh_M) (hw : wp_X7_well  a0 M Q) : gh_Calls 1 mi_X7_well [vR 32 0, vI a0] M (gh_Qi Q) := by
  refine gh_of (by decide) rfl 0 rfl (L0 := [some (vR 32 0), some (vI a0)]) rfl (fun wd x hE => ?_)
  unfold wp_X7_well at hw
  refine gh_aload_n dc_X7_well_0 rfl ?_
  refine gh_iconst (v := (nI 0)) dc_X7_well_1 gc_0 ?_
  refine gh_put (k := 32) (t := 0) dc_X7_well_2 fl_RX7_46 (by decide) (by decide) rfl rfl (fun _ h => by cases h; rfl) rfl rfl ?_
  obtain ⟨M1, eM1⟩ : ∃ z, z = (gh_st M 32 0 13 (nI 0)) := ⟨_, rfl⟩
  rw [← eM1]
  replace hw := hw _ eM1
  refine gh_iload_n dc_X7_well_5 rfl ?_
  exact gh_iret dc_X7_well_6 hE rfl hw
theorem wk_X7_found   (Q : Int32 → gh_M → Prop) (a0 : Int32) (M : gh_M) (hw : wp_X7_found  a0 M Q) : gh_Calls 1 mi_X7_found [vR 32 0, vI a0] M (gh_Qi Q) := by
  refine gh_of (by decide) rfl 0 rfl (L0 := [some (vR 32 0), some (vI a0)]) rfl (fun wd x hE => ?_)
  unfold wp_X7_found at hw
  refine gh_aload_n dc_X7_found_0 rfl ?_
  refine gh_iload_n dc_X7_found_1 rfl ?_
  refine gh_put (k := 32) (t := 0) dc_X7_found_2 fl_RX7_46 (by decide) (by decide) rfl rfl (fun _ h => by cases h; rfl) rfl rfl ?_
  obtain ⟨M1, eM1⟩ : ∃ z, z = (gh_st M 32 0 13 a0) := ⟨_, rfl⟩
  rw [← eM1]
  replace hw := hw _ eM1
  refine gh_ldc (v := (-1000010 : Int32)) dc_X7_found_5 tw_903 ?_
  refine gh_iload_n dc_X7_found_7 rfl ?_
  refine gh_isub dc_X7_found_8 ?_
  exact gh_iret dc_X7_found_9 hE rfl hw
theorem lk_X7_row_52 {wd : gh_Wd} {x : gh_X} {Q : Int32 → gh_M → Prop}   (hE : gh_E wd (gh_Qi Q) x)   : ∀ (n : Nat) (x1 : Int32) (x3 : Int32) (x4 : Int32) (M : gh_M), wl_X7_row_52 Q n x1 x3 x4 M → gh_J mi_X7_row 3 wd x M 52 [some (vR 32 0), some (vI x1), none, some (vI x3), some (vI x4)] [] := by
  intro n
  induction n with
  | zero => intro x1 x3 x4 M hw; exact hw.elim
  | succ n ih =>
    intro x1 x3 x4 M hw
    unfold wl_X7_row_52 at hw
    refine gh_iload dc_X7_row_52 rfl ?_
    refine gh_iload_n dc_X7_row_54 rfl ?_
    refine gh_icmp_ge (tgt := 77) dc_X7_row_55 rfl (fun c13 => ?_) (fun c13 => ?_)
    · replace hw := hw.1 c13
      refine gh_aload_n dc_X7_row_77 rfl ?_
      refine gh_iload_n dc_X7_row_78 rfl ?_
      refine gh_callVi (mi' := mi_X7_well) (as := [vI x3]) (S := []) (k := 32) (t := 0) dc_X7_row_79 ml_RX7_64 ok_X7_well rfl rfl (by decide) (Nat.le_of_ble_eq_true rfl) (by decide) (by decide) rfl rfl (wk_X7_well _ _ _ hw) (fun r14 M15 hw => ?_)
      exact gh_iret dc_X7_row_82 hE rfl hw
    · replace hw := hw.2 c13
      refine gh_aload_n dc_X7_row_58 rfl ?_
      refine gh_getR (k := 32) (t := 0) dc_X7_row_59 fl_RX7_25 (by decide) (by decide) rfl rfl ?_
      refine gh_bipush (v := (nI 40)) dc_X7_row_62 gb_40 ?_
      refine gh_iload_n dc_X7_row_64 rfl ?_
      refine gh_imul dc_X7_row_65 ?_
      refine gh_iload dc_X7_row_66 rfl ?_
      refine gh_iadd dc_X7_row_68 ?_
      refine gh_iconst (v := (nI 0)) dc_X7_row_69 gc_0 ?_
      obtain ⟨h16, hw⟩ := hw
      refine gh_iast (k := 38) (t := 0) dc_X7_row_70 rfl (by decide) (by decide) h16 ?_
      obtain ⟨M17, eM17⟩ : ∃ z, z = (gh_st M 38 0 (((nI 40) * x1) + x4).toNatClampNeg (nI 0)) := ⟨_, rfl⟩
      rw [← eM17]
      replace hw := hw _ eM17
      obtain ⟨y4_18, ey4_18⟩ : ∃ z, z = (x4 + (nI 1)) := ⟨_, rfl⟩
      replace hw := hw _ ey4_18
      refine gh_iinc (v := y4_18) (L' := [some (vR 32 0), some (vI x1), none, some (vI x3), some (vI y4_18)]) dc_X7_row_71 rfl ((congrArg (fun z => x4 + z) gc_1).trans ey4_18.symm) (by decide) rfl rfl ?_
      refine gh_goto (tgt := 52) dc_X7_row_74 rfl ?_
      refine gh_drop (pc' := 0) [some (vR 32 0), some (vI x1), none, some (vI x3), some (vI y4_18)] ⟨rfl, rfl, rfl, rfl, trivial⟩ ?_
      exact ih _ _ _ _ hw
theorem wk_X7_row   (Q : Int32 → gh_M → Prop) (a0 : Int32) (a1 : Int32) (a2 : Int32) (M : gh_M) (hw : wp_X7_row  a0 a1 a2 M Q) : gh_Calls 3 mi_X7_row [vR 32 0, vI a0, vI a1, vI a2] M (gh_Qi Q) := by
  refine gh_of (by decide) rfl 1 rfl (L0 := [some (vR 32 0), some (vI a0), some (vI a1), some (vI a2), none]) rfl (fun wd x hE => ?_)
  unfold wp_X7_row at hw
  refine gh_iload_n dc_X7_row_0 rfl ?_
  refine gh_callSi (mi' := mi_X7_isRow) (as := [vI a0]) (S := []) dc_X7_row_1 ml_RX7_55 ok_X7_isRow rfl rfl (by decide) (Nat.le_of_ble_eq_true rfl) (wk_X7_isRow _ _ _ hw) (fun r1 M2 hw => ?_)
  refine gh_if_eq (tgt := 22) dc_X7_row_4 rfl (fun c3 => ?_) (fun c3 => ?_)
  · replace hw := hw.1 c3
    refine gh_ldc (v := (-1000001 : Int32)) dc_X7_row_22 tw_898 ?_
    exact gh_iret dc_X7_row_24 hE rfl hw
  · replace hw := hw.2 c3
    refine gh_iload_n dc_X7_row_7 rfl ?_
    refine gh_iconst (v := (nI 0)) dc_X7_row_8 gc_0 ?_
    refine gh_iconst (v := (nI 2)) dc_X7_row_9 gc_2 ?_
    refine gh_callSi (mi' := mi_X7_in) (as := [vI a1, vI (nI 0), vI (nI 2)]) (S := []) dc_X7_row_10 ml_RX7_51 ok_X7_in rfl rfl (by decide) (Nat.le_of_ble_eq_true rfl) (wk_X7_in _ _ _ _ _ hw) (fun r4 M5 hw => ?_)
    refine gh_if_eq (tgt := 22) dc_X7_row_13 rfl (fun c6 => ?_) (fun c6 => ?_)
    · replace hw := hw.1 c6
      refine gh_ldc (v := (-1000001 : Int32)) dc_X7_row_22 tw_898 ?_
      exact gh_iret dc_X7_row_24 hE rfl hw
    · replace hw := hw.2 c6
      refine gh_iload_n dc_X7_row_16 rfl ?_
      refine gh_bipush (v := (nI 40)) dc_X7_row_17 gb_40 ?_
      refine gh_icmp_le (tgt := 25) dc_X7_row_19 rfl (fun c7 => ?_) (fun c7 => ?_)
      · replace hw := hw.1 c7
        refine gh_iload_n dc_X7_row_25 rfl ?_
        refine gh_if_ge (tgt := 35) dc_X7_row_26 rfl (fun c8 => ?_) (fun c8 => ?_)
        · replace hw := hw.1 c8
          refine gh_aload_n dc_X7_row_35 rfl ?_
          refine gh_getR (k := 32) (t := 0) dc_X7_row_36 fl_RX7_31 (by decide) (by decide) rfl rfl ?_
          refine gh_iload_n dc_X7_row_39 rfl ?_
          refine gh_iload_n dc_X7_row_40 rfl ?_
          obtain ⟨h9, hw⟩ := hw
          refine gh_iast (k := 40) (t := 0) dc_X7_row_41 rfl (by decide) (by decide) h9 ?_
          obtain ⟨M10, eM10⟩ : ∃ z, z = (gh_st M5 40 0 a0.toNatClampNeg a2) := ⟨_, rfl⟩
          rw [← eM10]
          replace hw := hw _ eM10
          refine gh_aload_n dc_X7_row_42 rfl ?_
          refine gh_getR (k := 32) (t := 0) dc_X7_row_43 fl_RX7_28 (by decide) (by decide) rfl rfl ?_
          refine gh_iload_n dc_X7_row_46 rfl ?_
          refine gh_iload_n dc_X7_row_47 rfl ?_
          obtain ⟨h11, hw⟩ := hw
          refine gh_iast (k := 39) (t := 0) dc_X7_row_48 rfl (by decide) (by decide) h11 ?_
          obtain ⟨M12, eM12⟩ : ∃ z, z = (gh_st M10 39 0 a0.toNatClampNeg a1) := ⟨_, rfl⟩
          rw [← eM12]
          replace hw := hw _ eM12
          refine gh_iconst (v := (nI 0)) dc_X7_row_49 gc_0 ?_
          refine gh_istore (L' := [some (vR 32 0), some (vI a0), some (vI a1), some (vI a2), some (vI (nI 0))]) dc_X7_row_50 (by decide) rfl rfl ?_
          refine gh_drop (pc' := 0) [some (vR 32 0), some (vI a0), none, some (vI a2), some (vI (nI 0))] ⟨rfl, rfl, rfl, rfl, trivial⟩ ?_
          obtain ⟨k, hw⟩ := hw
          exact lk_X7_row_52  hE  k _ _ _ _ hw
        · replace hw := hw.2 c8
          refine gh_aload_n dc_X7_row_29 rfl ?_
          refine gh_iconst (v := (nI 4)) dc_X7_row_30 gc_4 ?_
          refine gh_callVi (mi' := mi_X7_found) (as := [vI (nI 4)]) (S := []) (k := 32) (t := 0) dc_X7_row_31 ml_RX7_60 ok_X7_found rfl rfl (by decide) (Nat.le_of_ble_eq_true rfl) (by decide) (by decide) rfl rfl (wk_X7_found _ _ _ hw) (fun r19 M20 hw => ?_)
          exact gh_iret dc_X7_row_34 hE rfl hw
      · replace hw := hw.2 c7
        refine gh_ldc (v := (-1000001 : Int32)) dc_X7_row_22 tw_898 ?_
        exact gh_iret dc_X7_row_24 hE rfl hw
theorem wk_X7_set   (Q : Int32 → gh_M → Prop) (a0 : Int32) (a1 : Int32) (a2 : Int32) (M : gh_M) (hw : wp_X7_set  a0 a1 a2 M Q) : gh_Calls 3 mi_X7_set [vR 32 0, vI a0, vI a1, vI a2] M (gh_Qi Q) := by
  refine gh_of (by decide) rfl 1 rfl (L0 := [some (vR 32 0), some (vI a0), some (vI a1), some (vI a2), none]) rfl (fun wd x hE => ?_)
  unfold wp_X7_set at hw
  refine gh_iload_n dc_X7_set_0 rfl ?_
  refine gh_callSi (mi' := mi_X7_isRow) (as := [vI a0]) (S := []) dc_X7_set_1 ml_RX7_55 ok_X7_isRow rfl rfl (by decide) (Nat.le_of_ble_eq_true rfl) (wk_X7_isRow _ _ _ hw) (fun r1 M2 hw => ?_)
  refine gh_if_ne (tgt := 10) dc_X7_set_4 rfl (fun c3 => ?_) (fun c3 => ?_)
  · replace hw := hw.1 c3
    refine gh_aload_n dc_X7_set_10 rfl ?_
    refine gh_getR (k := 32) (t := 0) dc_X7_set_11 fl_RX7_31 (by decide) (by decide) rfl rfl ?_
    refine gh_iload_n dc_X7_set_14 rfl ?_
    obtain ⟨h4, hw⟩ := hw
    refine gh_iald (k := 40) (t := 0) dc_X7_set_15 rfl (by decide) (by decide) h4 ?_
    refine gh_if_ge (tgt := 25) dc_X7_set_16 rfl (fun c5 => ?_) (fun c5 => ?_)
    · replace hw := hw.1 c5
      refine gh_iload_n dc_X7_set_25 rfl ?_
      refine gh_iconst (v := (nI 0)) dc_X7_set_26 gc_0 ?_
      refine gh_aload_n dc_X7_set_27 rfl ?_
      refine gh_getR (k := 32) (t := 0) dc_X7_set_28 fl_RX7_31 (by decide) (by decide) rfl rfl ?_
      refine gh_iload_n dc_X7_set_31 rfl ?_
      obtain ⟨h6, hw⟩ := hw
      refine gh_iald (k := 40) (t := 0) dc_X7_set_32 rfl (by decide) (by decide) h6 ?_
      refine gh_iconst (v := (nI 1)) dc_X7_set_33 gc_1 ?_
      refine gh_isub dc_X7_set_34 ?_
      refine gh_callSi (mi' := mi_X7_in) (as := [vI a1, vI (nI 0), vI ((M2 40 0 a0.toNatClampNeg) - (nI 1))]) (S := []) dc_X7_set_35 ml_RX7_51 ok_X7_in rfl rfl (by decide) (Nat.le_of_ble_eq_true rfl) (wk_X7_in _ _ _ _ _ hw) (fun r7 M8 hw => ?_)
      refine gh_if_ne (tgt := 47) dc_X7_set_38 rfl (fun c9 => ?_) (fun c9 => ?_)
      · replace hw := hw.1 c9
        refine gh_aload_n dc_X7_set_47 rfl ?_
        refine gh_getR (k := 32) (t := 0) dc_X7_set_48 fl_RX7_28 (by decide) (by decide) rfl rfl ?_
        refine gh_iload_n dc_X7_set_51 rfl ?_
        obtain ⟨h10, hw⟩ := hw
        refine gh_iald (k := 39) (t := 0) dc_X7_set_52 rfl (by decide) (by decide) h10 ?_
        refine gh_if_ne (tgt := 61) dc_X7_set_53 rfl (fun c11 => ?_) (fun c11 => ?_)
        · replace hw := hw.1 c11
          refine gh_aload_n dc_X7_set_61 rfl ?_
          refine gh_getR (k := 32) (t := 0) dc_X7_set_62 fl_RX7_28 (by decide) (by decide) rfl rfl ?_
          refine gh_iload_n dc_X7_set_65 rfl ?_
          obtain ⟨h12, hw⟩ := hw
          refine gh_iald (k := 39) (t := 0) dc_X7_set_66 rfl (by decide) (by decide) h12 ?_
          refine gh_iconst (v := (nI 1)) dc_X7_set_67 gc_1 ?_
          refine gh_icmp_ne (tgt := 76) dc_X7_set_68 rfl (fun c13 => ?_) (fun c13 => ?_)
          · replace hw := hw.1 c13
            refine gh_iload_n dc_X7_set_76 rfl ?_
            refine gh_istore (L' := [some (vR 32 0), some (vI a0), some (vI a1), some (vI a2), some (vI a2)]) dc_X7_set_77 (by decide) rfl rfl ?_
            refine gh_aload_n dc_X7_set_79 rfl ?_
            refine gh_getR (k := 32) (t := 0) dc_X7_set_80 fl_RX7_25 (by decide) (by decide) rfl rfl ?_
            refine gh_bipush (v := (nI 40)) dc_X7_set_83 gb_40 ?_
            refine gh_iload_n dc_X7_set_85 rfl ?_
            refine gh_imul dc_X7_set_86 ?_
            refine gh_iload_n dc_X7_set_87 rfl ?_
            refine gh_iadd dc_X7_set_88 ?_
            refine gh_iload dc_X7_set_89 rfl ?_
            obtain ⟨h14, hw⟩ := hw
            refine gh_iast (k := 38) (t := 0) dc_X7_set_91 rfl (by decide) (by decide) h14 ?_
            obtain ⟨M15, eM15⟩ : ∃ z, z = (gh_st M8 38 0 (((nI 40) * a0) + a1).toNatClampNeg a2) := ⟨_, rfl⟩
            rw [← eM15]
            replace hw := hw _ eM15
            refine gh_aload_n dc_X7_set_92 rfl ?_
            refine gh_iload dc_X7_set_93 rfl ?_
            refine gh_callVi (mi' := mi_X7_well) (as := [vI a2]) (S := []) (k := 32) (t := 0) dc_X7_set_95 ml_RX7_64 ok_X7_well rfl rfl (by decide) (Nat.le_of_ble_eq_true rfl) (by decide) (by decide) rfl rfl (wk_X7_well _ _ _ hw) (fun r16 M17 hw => ?_)
            exact gh_iret dc_X7_set_98 hE rfl hw
          · replace hw := hw.2 c13
            refine gh_iload_n dc_X7_set_71 rfl ?_
            refine gh_i2s dc_X7_set_72 ?_
            refine gh_goto (tgt := 77) dc_X7_set_73 rfl ?_
            obtain ⟨y4_18, ey4_18⟩ : ∃ z, z = a2.toInt16.toInt32 := ⟨_, rfl⟩
            rw [← ey4_18]
            replace hw := hw _ ey4_18
            refine gh_istore (L' := [some (vR 32 0), some (vI a0), some (vI a1), some (vI a2), some (vI y4_18)]) dc_X7_set_77 (by decide) rfl rfl ?_
            refine gh_aload_n dc_X7_set_79 rfl ?_
            refine gh_getR (k := 32) (t := 0) dc_X7_set_80 fl_RX7_25 (by decide) (by decide) rfl rfl ?_
            refine gh_bipush (v := (nI 40)) dc_X7_set_83 gb_40 ?_
            refine gh_iload_n dc_X7_set_85 rfl ?_
            refine gh_imul dc_X7_set_86 ?_
            refine gh_iload_n dc_X7_set_87 rfl ?_
            refine gh_iadd dc_X7_set_88 ?_
            refine gh_iload dc_X7_set_89 rfl ?_
            obtain ⟨h19, hw⟩ := hw
            refine gh_iast (k := 38) (t := 0) dc_X7_set_91 rfl (by decide) (by decide) h19 ?_
            obtain ⟨M20, eM20⟩ : ∃ z, z = (gh_st M8 38 0 (((nI 40) * a0) + a1).toNatClampNeg y4_18) := ⟨_, rfl⟩
            rw [← eM20]
            replace hw := hw _ eM20
            refine gh_aload_n dc_X7_set_92 rfl ?_
            refine gh_iload dc_X7_set_93 rfl ?_
            refine gh_callVi (mi' := mi_X7_well) (as := [vI y4_18]) (S := []) (k := 32) (t := 0) dc_X7_set_95 ml_RX7_64 ok_X7_well rfl rfl (by decide) (Nat.le_of_ble_eq_true rfl) (by decide) (by decide) rfl rfl (wk_X7_well _ _ _ hw) (fun r21 M22 hw => ?_)
            exact gh_iret dc_X7_set_98 hE rfl hw
        · replace hw := hw.2 c11
          refine gh_iload_n dc_X7_set_56 rfl ?_
          refine gh_i2b dc_X7_set_57 ?_
          refine gh_goto (tgt := 77) dc_X7_set_58 rfl ?_
          obtain ⟨y4_23, ey4_23⟩ : ∃ z, z = a2.toInt8.toInt32 := ⟨_, rfl⟩
          rw [← ey4_23]
          replace hw := hw _ ey4_23
          refine gh_istore (L' := [some (vR 32 0), some (vI a0), some (vI a1), some (vI a2), some (vI y4_23)]) dc_X7_set_77 (by decide) rfl rfl ?_
          refine gh_aload_n dc_X7_set_79 rfl ?_
          refine gh_getR (k := 32) (t := 0) dc_X7_set_80 fl_RX7_25 (by decide) (by decide) rfl rfl ?_
          refine gh_bipush (v := (nI 40)) dc_X7_set_83 gb_40 ?_
          refine gh_iload_n dc_X7_set_85 rfl ?_
          refine gh_imul dc_X7_set_86 ?_
          refine gh_iload_n dc_X7_set_87 rfl ?_
          refine gh_iadd dc_X7_set_88 ?_
          refine gh_iload dc_X7_set_89 rfl ?_
          obtain ⟨h24, hw⟩ := hw
          refine gh_iast (k := 38) (t := 0) dc_X7_set_91 rfl (by decide) (by decide) h24 ?_
          obtain ⟨M25, eM25⟩ : ∃ z, z = (gh_st M8 38 0 (((nI 40) * a0) + a1).toNatClampNeg y4_23) := ⟨_, rfl⟩
          rw [← eM25]
          replace hw := hw _ eM25
          refine gh_aload_n dc_X7_set_92 rfl ?_
          refine gh_iload dc_X7_set_93 rfl ?_
          refine gh_callVi (mi' := mi_X7_well) (as := [vI y4_23]) (S := []) (k := 32) (t := 0) dc_X7_set_95 ml_RX7_64 ok_X7_well rfl rfl (by decide) (Nat.le_of_ble_eq_true rfl) (by decide) (by decide) rfl rfl (wk_X7_well _ _ _ hw) (fun r26 M27 hw => ?_)
          exact gh_iret dc_X7_set_98 hE rfl hw
      · replace hw := hw.2 c9
        refine gh_aload_n dc_X7_set_41 rfl ?_
        refine gh_iconst (v := (nI 2)) dc_X7_set_42 gc_2 ?_
        refine gh_callVi (mi' := mi_X7_found) (as := [vI (nI 2)]) (S := []) (k := 32) (t := 0) dc_X7_set_43 ml_RX7_60 ok_X7_found rfl rfl (by decide) (Nat.le_of_ble_eq_true rfl) (by decide) (by decide) rfl rfl (wk_X7_found _ _ _ hw) (fun r28 M29 hw => ?_)
        exact gh_iret dc_X7_set_46 hE rfl hw
    · replace hw := hw.2 c5
      refine gh_aload_n dc_X7_set_19 rfl ?_
      refine gh_iconst (v := (nI 1)) dc_X7_set_20 gc_1 ?_
      refine gh_callVi (mi' := mi_X7_found) (as := [vI (nI 1)]) (S := []) (k := 32) (t := 0) dc_X7_set_21 ml_RX7_60 ok_X7_found rfl rfl (by decide) (Nat.le_of_ble_eq_true rfl) (by decide) (by decide) rfl rfl (wk_X7_found _ _ _ hw) (fun r30 M31 hw => ?_)
      exact gh_iret dc_X7_set_24 hE rfl hw
  · replace hw := hw.2 c3
    refine gh_ldc (v := (-1000001 : Int32)) dc_X7_set_7 tw_898 ?_
    exact gh_iret dc_X7_set_9 hE rfl hw
theorem wk_X7_isPart   (Q : Int32 → gh_M → Prop) (a0 : Int32) (a1 : Int32) (a2 : Int32) (M : gh_M) (hw : wp_X7_isPart  a0 a1 a2 M Q) : gh_Calls 1 mi_X7_isPart [vR 32 0, vI a0, vI a1, vI a2] M (gh_Qi Q) := by
  refine gh_of (by decide) rfl 0 rfl (L0 := [some (vR 32 0), some (vI a0), some (vI a1), some (vI a2)]) rfl (fun wd x hE => ?_)
  unfold wp_X7_isPart at hw
  refine gh_iload_n dc_X7_isPart_0 rfl ?_
  refine gh_if_lt (tgt := 30) dc_X7_isPart_1 rfl (fun c1 => ?_) (fun c1 => ?_)
  · replace hw := hw.1 c1
    refine gh_iconst (v := (nI 0)) dc_X7_isPart_30 gc_0 ?_
    exact gh_zret dc_X7_isPart_31 hE rfl (by decide) hw
  · replace hw := hw.2 c1
    refine gh_iload_n dc_X7_isPart_4 rfl ?_
    refine gh_if_lt (tgt := 30) dc_X7_isPart_5 rfl (fun c2 => ?_) (fun c2 => ?_)
    · replace hw := hw.1 c2
      refine gh_iconst (v := (nI 0)) dc_X7_isPart_30 gc_0 ?_
      exact gh_zret dc_X7_isPart_31 hE rfl (by decide) hw
    · replace hw := hw.2 c2
      refine gh_iload_n dc_X7_isPart_8 rfl ?_
      refine gh_bipush (v := (nI 40)) dc_X7_isPart_9 gb_40 ?_
      refine gh_icmp_gt (tgt := 30) dc_X7_isPart_11 rfl (fun c3 => ?_) (fun c3 => ?_)
      · replace hw := hw.1 c3
        refine gh_iconst (v := (nI 0)) dc_X7_isPart_30 gc_0 ?_
        exact gh_zret dc_X7_isPart_31 hE rfl (by decide) hw
      · replace hw := hw.2 c3
        refine gh_iload_n dc_X7_isPart_14 rfl ?_
        refine gh_aload_n dc_X7_isPart_15 rfl ?_
        refine gh_getR (k := 32) (t := 0) dc_X7_isPart_16 fl_RX7_31 (by decide) (by decide) rfl rfl ?_
        refine gh_iload_n dc_X7_isPart_19 rfl ?_
        obtain ⟨h4, hw⟩ := hw
        refine gh_iald (k := 40) (t := 0) dc_X7_isPart_20 rfl (by decide) (by decide) h4 ?_
        refine gh_iload_n dc_X7_isPart_21 rfl ?_
        refine gh_isub dc_X7_isPart_22 ?_
        refine gh_icmp_gt (tgt := 30) dc_X7_isPart_23 rfl (fun c5 => ?_) (fun c5 => ?_)
        · replace hw := hw.1 c5
          refine gh_iconst (v := (nI 0)) dc_X7_isPart_30 gc_0 ?_
          exact gh_zret dc_X7_isPart_31 hE rfl (by decide) hw
        · replace hw := hw.2 c5
          refine gh_iconst (v := (nI 1)) dc_X7_isPart_26 gc_1 ?_
          refine gh_goto (tgt := 31) dc_X7_isPart_27 rfl ?_
          exact gh_zret dc_X7_isPart_31 hE rfl (by decide) hw
theorem lk_X7_copy_112 {wd : gh_Wd} {x : gh_X} {Q : Int32 → gh_M → Prop}   (hE : gh_E wd (gh_Qi Q) x)   : ∀ (n : Nat) (x1 : Int32) (x2 : Int32) (x3 : Int32) (x4 : Int32) (x5 : Int32) (x6 : Int32) (x7 : Int32) (M : gh_M), wl_X7_copy_112 Q n x1 x2 x3 x4 x5 x6 x7 M → gh_J mi_X7_copy 3 wd x M 112 [some (vR 32 0), some (vI x1), some (vI x2), some (vI x3), some (vI x4), some (vI x5), some (vI x6), some (vI x7), none] [] := by
  intro n
  induction n with
  | zero => intro x1 x2 x3 x4 x5 x6 x7 M hw; exact hw.elim
  | succ n ih =>
    intro x1 x2 x3 x4 x5 x6 x7 M hw
    unfold wl_X7_copy_112 at hw
    refine gh_iload dc_X7_copy_112 rfl ?_
    refine gh_iload dc_X7_copy_114 rfl ?_
    refine gh_icmp_ge (tgt := 173) dc_X7_copy_116 rfl (fun c25 => ?_) (fun c25 => ?_)
    · replace hw := hw.1 c25
      refine gh_aload_n dc_X7_copy_173 rfl ?_
      refine gh_iload dc_X7_copy_174 rfl ?_
      refine gh_callVi (mi' := mi_X7_well) (as := [vI x5]) (S := []) (k := 32) (t := 0) dc_X7_copy_176 ml_RX7_64 ok_X7_well rfl rfl (by decide) (Nat.le_of_ble_eq_true rfl) (by decide) (by decide) rfl rfl (wk_X7_well _ _ _ hw) (fun r26 M27 hw => ?_)
      exact gh_iret dc_X7_copy_179 hE rfl hw
    · replace hw := hw.2 c25
      refine gh_iload dc_X7_copy_119 rfl ?_
      refine gh_if_eq (tgt := 134) dc_X7_copy_121 rfl (fun c28 => ?_) (fun c28 => ?_)
      · replace hw := hw.1 c28
        refine gh_iload dc_X7_copy_134 rfl ?_
        refine gh_istore (L' := [some (vR 32 0), some (vI x1), some (vI x2), some (vI x3), some (vI x4), some (vI x5), some (vI x6), some (vI x7), some (vI x7)]) dc_X7_copy_136 (by decide) rfl rfl ?_
        refine gh_aload_n dc_X7_copy_138 rfl ?_
        refine gh_getR (k := 32) (t := 0) dc_X7_copy_139 fl_RX7_25 (by decide) (by decide) rfl rfl ?_
        refine gh_bipush (v := (nI 40)) dc_X7_copy_142 gb_40 ?_
        refine gh_iload_n dc_X7_copy_144 rfl ?_
        refine gh_imul dc_X7_copy_145 ?_
        refine gh_iload dc_X7_copy_146 rfl ?_
        refine gh_iadd dc_X7_copy_148 ?_
        refine gh_iload dc_X7_copy_149 rfl ?_
        refine gh_iadd dc_X7_copy_151 ?_
        refine gh_aload_n dc_X7_copy_152 rfl ?_
        refine gh_getR (k := 32) (t := 0) dc_X7_copy_153 fl_RX7_25 (by decide) (by decide) rfl rfl ?_
        refine gh_bipush (v := (nI 40)) dc_X7_copy_156 gb_40 ?_
        refine gh_iload_n dc_X7_copy_158 rfl ?_
        refine gh_imul dc_X7_copy_159 ?_
        refine gh_iload_n dc_X7_copy_160 rfl ?_
        refine gh_iadd dc_X7_copy_161 ?_
        refine gh_iload dc_X7_copy_162 rfl ?_
        refine gh_iadd dc_X7_copy_164 ?_
        obtain ⟨h29, hw⟩ := hw
        refine gh_iald (k := 38) (t := 0) dc_X7_copy_165 rfl (by decide) (by decide) h29 ?_
        obtain ⟨h30, hw⟩ := hw
        refine gh_iast (k := 38) (t := 0) dc_X7_copy_166 rfl (by decide) (by decide) h30 ?_
        obtain ⟨M31, eM31⟩ : ∃ z, z = (gh_st M 38 0 ((((nI 40) * x3) + x4) + x7).toNatClampNeg (M 38 0 ((((nI 40) * x1) + x2) + x7).toNatClampNeg)) := ⟨_, rfl⟩
        rw [← eM31]
        replace hw := hw _ eM31
        obtain ⟨y7_32, ey7_32⟩ : ∃ z, z = (x7 + (nI 1)) := ⟨_, rfl⟩
        replace hw := hw _ ey7_32
        refine gh_iinc (v := y7_32) (L' := [some (vR 32 0), some (vI x1), some (vI x2), some (vI x3), some (vI x4), some (vI x5), some (vI x6), some (vI y7_32), some (vI x7)]) dc_X7_copy_167 rfl ((congrArg (fun z => x7 + z) gc_1).trans ey7_32.symm) (by decide) rfl rfl ?_
        refine gh_goto (tgt := 112) dc_X7_copy_170 rfl ?_
        refine gh_drop (pc' := 0) [some (vR 32 0), some (vI x1), some (vI x2), some (vI x3), some (vI x4), some (vI x5), some (vI x6), some (vI y7_32), none] ⟨rfl, rfl, rfl, rfl, rfl, rfl, rfl, rfl, trivial⟩ ?_
        exact ih _ _ _ _ _ _ _ _ hw
      · replace hw := hw.2 c28
        refine gh_iload dc_X7_copy_124 rfl ?_
        refine gh_iconst (v := (nI 1)) dc_X7_copy_126 gc_1 ?_
        refine gh_isub dc_X7_copy_127 ?_
        refine gh_iload dc_X7_copy_128 rfl ?_
        refine gh_isub dc_X7_copy_130 ?_
        refine gh_goto (tgt := 136) dc_X7_copy_131 rfl ?_
        obtain ⟨y8_33, ey8_33⟩ : ∃ z, z = ((x5 - (nI 1)) - x7) := ⟨_, rfl⟩
        rw [← ey8_33]
        replace hw := hw _ ey8_33
        refine gh_istore (L' := [some (vR 32 0), some (vI x1), some (vI x2), some (vI x3), some (vI x4), some (vI x5), some (vI x6), some (vI x7), some (vI y8_33)]) dc_X7_copy_136 (by decide) rfl rfl ?_
        refine gh_aload_n dc_X7_copy_138 rfl ?_
        refine gh_getR (k := 32) (t := 0) dc_X7_copy_139 fl_RX7_25 (by decide) (by decide) rfl rfl ?_
        refine gh_bipush (v := (nI 40)) dc_X7_copy_142 gb_40 ?_
        refine gh_iload_n dc_X7_copy_144 rfl ?_
        refine gh_imul dc_X7_copy_145 ?_
        refine gh_iload dc_X7_copy_146 rfl ?_
        refine gh_iadd dc_X7_copy_148 ?_
        refine gh_iload dc_X7_copy_149 rfl ?_
        refine gh_iadd dc_X7_copy_151 ?_
        refine gh_aload_n dc_X7_copy_152 rfl ?_
        refine gh_getR (k := 32) (t := 0) dc_X7_copy_153 fl_RX7_25 (by decide) (by decide) rfl rfl ?_
        refine gh_bipush (v := (nI 40)) dc_X7_copy_156 gb_40 ?_
        refine gh_iload_n dc_X7_copy_158 rfl ?_
        refine gh_imul dc_X7_copy_159 ?_
        refine gh_iload_n dc_X7_copy_160 rfl ?_
        refine gh_iadd dc_X7_copy_161 ?_
        refine gh_iload dc_X7_copy_162 rfl ?_
        refine gh_iadd dc_X7_copy_164 ?_
        obtain ⟨h34, hw⟩ := hw
        refine gh_iald (k := 38) (t := 0) dc_X7_copy_165 rfl (by decide) (by decide) h34 ?_
        obtain ⟨h35, hw⟩ := hw
        refine gh_iast (k := 38) (t := 0) dc_X7_copy_166 rfl (by decide) (by decide) h35 ?_
        obtain ⟨M36, eM36⟩ : ∃ z, z = (gh_st M 38 0 ((((nI 40) * x3) + x4) + y8_33).toNatClampNeg (M 38 0 ((((nI 40) * x1) + x2) + y8_33).toNatClampNeg)) := ⟨_, rfl⟩
        rw [← eM36]
        replace hw := hw _ eM36
        obtain ⟨y7_37, ey7_37⟩ : ∃ z, z = (x7 + (nI 1)) := ⟨_, rfl⟩
        replace hw := hw _ ey7_37
        refine gh_iinc (v := y7_37) (L' := [some (vR 32 0), some (vI x1), some (vI x2), some (vI x3), some (vI x4), some (vI x5), some (vI x6), some (vI y7_37), some (vI y8_33)]) dc_X7_copy_167 rfl ((congrArg (fun z => x7 + z) gc_1).trans ey7_37.symm) (by decide) rfl rfl ?_
        refine gh_goto (tgt := 112) dc_X7_copy_170 rfl ?_
        refine gh_drop (pc' := 0) [some (vR 32 0), some (vI x1), some (vI x2), some (vI x3), some (vI x4), some (vI x5), some (vI x6), some (vI y7_37), none] ⟨rfl, rfl, rfl, rfl, rfl, rfl, rfl, rfl, trivial⟩ ?_
        exact ih _ _ _ _ _ _ _ _ hw
theorem wk_X7_copy   (Q : Int32 → gh_M → Prop) (a0 : Int32) (a1 : Int32) (a2 : Int32) (a3 : Int32) (a4 : Int32) (M : gh_M) (hw : wp_X7_copy  a0 a1 a2 a3 a4 M Q) : gh_Calls 3 mi_X7_copy [vR 32 0, vI a0, vI a1, vI a2, vI a3, vI a4] M (gh_Qi Q) := by
  refine gh_of (by decide) rfl 3 rfl (L0 := [some (vR 32 0), some (vI a0), some (vI a1), some (vI a2), some (vI a3), some (vI a4), none, none, none]) rfl (fun wd x hE => ?_)
  unfold wp_X7_copy at hw
  refine gh_iload_n dc_X7_copy_0 rfl ?_
  refine gh_callSi (mi' := mi_X7_isRow) (as := [vI a0]) (S := []) dc_X7_copy_1 ml_RX7_55 ok_X7_isRow rfl rfl (by decide) (Nat.le_of_ble_eq_true rfl) (wk_X7_isRow _ _ _ hw) (fun r1 M2 hw => ?_)
  refine gh_if_eq (tgt := 14) dc_X7_copy_4 rfl (fun c3 => ?_) (fun c3 => ?_)
  · replace hw := hw.1 c3
    refine gh_ldc (v := (-1000001 : Int32)) dc_X7_copy_14 tw_898 ?_
    exact gh_iret dc_X7_copy_16 hE rfl hw
  · replace hw := hw.2 c3
    refine gh_iload_n dc_X7_copy_7 rfl ?_
    refine gh_callSi (mi' := mi_X7_isRow) (as := [vI a2]) (S := []) dc_X7_copy_8 ml_RX7_55 ok_X7_isRow rfl rfl (by decide) (Nat.le_of_ble_eq_true rfl) (wk_X7_isRow _ _ _ hw) (fun r4 M5 hw => ?_)
    refine gh_if_ne (tgt := 17) dc_X7_copy_11 rfl (fun c6 => ?_) (fun c6 => ?_)
    · replace hw := hw.1 c6
      refine gh_aload_n dc_X7_copy_17 rfl ?_
      refine gh_getR (k := 32) (t := 0) dc_X7_copy_18 fl_RX7_31 (by decide) (by decide) rfl rfl ?_
      refine gh_iload_n dc_X7_copy_21 rfl ?_
      obtain ⟨h7, hw⟩ := hw
      refine gh_iald (k := 40) (t := 0) dc_X7_copy_22 rfl (by decide) (by decide) h7 ?_
      refine gh_if_lt (tgt := 35) dc_X7_copy_23 rfl (fun c8 => ?_) (fun c8 => ?_)
      · replace hw := hw.1 c8
        refine gh_aload_n dc_X7_copy_35 rfl ?_
        refine gh_iconst (v := (nI 1)) dc_X7_copy_36 gc_1 ?_
        refine gh_callVi (mi' := mi_X7_found) (as := [vI (nI 1)]) (S := []) (k := 32) (t := 0) dc_X7_copy_37 ml_RX7_60 ok_X7_found rfl rfl (by decide) (Nat.le_of_ble_eq_true rfl) (by decide) (by decide) rfl rfl (wk_X7_found _ _ _ hw) (fun r9 M10 hw => ?_)
        exact gh_iret dc_X7_copy_40 hE rfl hw
      · replace hw := hw.2 c8
        refine gh_aload_n dc_X7_copy_26 rfl ?_
        refine gh_getR (k := 32) (t := 0) dc_X7_copy_27 fl_RX7_31 (by decide) (by decide) rfl rfl ?_
        refine gh_iload_n dc_X7_copy_30 rfl ?_
        obtain ⟨h11, hw⟩ := hw
        refine gh_iald (k := 40) (t := 0) dc_X7_copy_31 rfl (by decide) (by decide) h11 ?_
        refine gh_if_ge (tgt := 41) dc_X7_copy_32 rfl (fun c12 => ?_) (fun c12 => ?_)
        · replace hw := hw.1 c12
          refine gh_aload_n dc_X7_copy_41 rfl ?_
          refine gh_getR (k := 32) (t := 0) dc_X7_copy_42 fl_RX7_28 (by decide) (by decide) rfl rfl ?_
          refine gh_iload_n dc_X7_copy_45 rfl ?_
          obtain ⟨h13, hw⟩ := hw
          refine gh_iald (k := 39) (t := 0) dc_X7_copy_46 rfl (by decide) (by decide) h13 ?_
          refine gh_aload_n dc_X7_copy_47 rfl ?_
          refine gh_getR (k := 32) (t := 0) dc_X7_copy_48 fl_RX7_28 (by decide) (by decide) rfl rfl ?_
          refine gh_iload_n dc_X7_copy_51 rfl ?_
          obtain ⟨h14, hw⟩ := hw
          refine gh_iald (k := 39) (t := 0) dc_X7_copy_52 rfl (by decide) (by decide) h14 ?_
          refine gh_icmp_eq (tgt := 62) dc_X7_copy_53 rfl (fun c15 => ?_) (fun c15 => ?_)
          · replace hw := hw.1 c15
            refine gh_aload_n dc_X7_copy_62 rfl ?_
            refine gh_iload_n dc_X7_copy_63 rfl ?_
            refine gh_iload_n dc_X7_copy_64 rfl ?_
            refine gh_iload dc_X7_copy_65 rfl ?_
            refine gh_callVi (mi' := mi_X7_isPart) (as := [vI a0, vI a1, vI a4]) (S := []) (k := 32) (t := 0) dc_X7_copy_67 ml_RX7_67 ok_X7_isPart rfl rfl (by decide) (Nat.le_of_ble_eq_true rfl) (by decide) (by decide) rfl rfl (wk_X7_isPart _ _ _ _ _ hw) (fun r16 M17 hw => ?_)
            refine gh_if_eq (tgt := 85) dc_X7_copy_70 rfl (fun c18 => ?_) (fun c18 => ?_)
            · replace hw := hw.1 c18
              refine gh_aload_n dc_X7_copy_85 rfl ?_
              refine gh_iconst (v := (nI 2)) dc_X7_copy_86 gc_2 ?_
              refine gh_callVi (mi' := mi_X7_found) (as := [vI (nI 2)]) (S := []) (k := 32) (t := 0) dc_X7_copy_87 ml_RX7_60 ok_X7_found rfl rfl (by decide) (Nat.le_of_ble_eq_true rfl) (by decide) (by decide) rfl rfl (wk_X7_found _ _ _ hw) (fun r19 M20 hw => ?_)
              exact gh_iret dc_X7_copy_90 hE rfl hw
            · replace hw := hw.2 c18
              refine gh_aload_n dc_X7_copy_73 rfl ?_
              refine gh_iload_n dc_X7_copy_74 rfl ?_
              refine gh_iload dc_X7_copy_75 rfl ?_
              refine gh_iload dc_X7_copy_77 rfl ?_
              refine gh_callVi (mi' := mi_X7_isPart) (as := [vI a2, vI a3, vI a4]) (S := []) (k := 32) (t := 0) dc_X7_copy_79 ml_RX7_67 ok_X7_isPart rfl rfl (by decide) (Nat.le_of_ble_eq_true rfl) (by decide) (by decide) rfl rfl (wk_X7_isPart _ _ _ _ _ hw) (fun r21 M22 hw => ?_)
              refine gh_if_ne (tgt := 91) dc_X7_copy_82 rfl (fun c23 => ?_) (fun c23 => ?_)
              · replace hw := hw.1 c23
                refine gh_iload_n dc_X7_copy_91 rfl ?_
                refine gh_iload_n dc_X7_copy_92 rfl ?_
                refine gh_icmp_ne (tgt := 106) dc_X7_copy_93 rfl (fun c24 => ?_) (fun c24 => ?_)
                · replace hw := hw.1 c24
                  refine gh_iconst (v := (nI 0)) dc_X7_copy_106 gc_0 ?_
                  refine gh_istore (L' := [some (vR 32 0), some (vI a0), some (vI a1), some (vI a2), some (vI a3), some (vI a4), some (vI (nI 0)), none, none]) dc_X7_copy_107 (by decide) rfl rfl ?_
                  refine gh_iconst (v := (nI 0)) dc_X7_copy_109 gc_0 ?_
                  refine gh_istore (L' := [some (vR 32 0), some (vI a0), some (vI a1), some (vI a2), some (vI a3), some (vI a4), some (vI (nI 0)), some (vI (nI 0)), none]) dc_X7_copy_110 (by decide) rfl rfl ?_
                  refine gh_drop (pc' := 0) [some (vR 32 0), some (vI a0), some (vI a1), some (vI a2), some (vI a3), some (vI a4), some (vI (nI 0)), some (vI (nI 0)), none] ⟨rfl, rfl, rfl, rfl, rfl, rfl, rfl, rfl, trivial⟩ ?_
                  obtain ⟨k, hw⟩ := hw
                  exact lk_X7_copy_112  hE  k _ _ _ _ _ _ _ _ hw
                · replace hw := hw.2 c24
                  refine gh_iload_n dc_X7_copy_96 rfl ?_
                  refine gh_iload dc_X7_copy_97 rfl ?_
                  refine gh_icmp_ge (tgt := 106) dc_X7_copy_99 rfl (fun c38 => ?_) (fun c38 => ?_)
                  · replace hw := hw.1 c38
                    refine gh_iconst (v := (nI 0)) dc_X7_copy_106 gc_0 ?_
                    refine gh_istore (L' := [some (vR 32 0), some (vI a0), some (vI a1), some (vI a2), some (vI a3), some (vI a4), some (vI (nI 0)), none, none]) dc_X7_copy_107 (by decide) rfl rfl ?_
                    refine gh_iconst (v := (nI 0)) dc_X7_copy_109 gc_0 ?_
                    refine gh_istore (L' := [some (vR 32 0), some (vI a0), some (vI a1), some (vI a2), some (vI a3), some (vI a4), some (vI (nI 0)), some (vI (nI 0)), none]) dc_X7_copy_110 (by decide) rfl rfl ?_
                    refine gh_drop (pc' := 0) [some (vR 32 0), some (vI a0), some (vI a1), some (vI a2), some (vI a3), some (vI a4), some (vI (nI 0)), some (vI (nI 0)), none] ⟨rfl, rfl, rfl, rfl, rfl, rfl, rfl, rfl, trivial⟩ ?_
                    obtain ⟨k, hw⟩ := hw
                    exact lk_X7_copy_112  hE  k _ _ _ _ _ _ _ _ hw
                  · replace hw := hw.2 c38
                    refine gh_iconst (v := (nI 1)) dc_X7_copy_102 gc_1 ?_
                    refine gh_goto (tgt := 107) dc_X7_copy_103 rfl ?_
                    refine gh_istore (L' := [some (vR 32 0), some (vI a0), some (vI a1), some (vI a2), some (vI a3), some (vI a4), some (vI (nI 1)), none, none]) dc_X7_copy_107 (by decide) rfl rfl ?_
                    refine gh_iconst (v := (nI 0)) dc_X7_copy_109 gc_0 ?_
                    refine gh_istore (L' := [some (vR 32 0), some (vI a0), some (vI a1), some (vI a2), some (vI a3), some (vI a4), some (vI (nI 1)), some (vI (nI 0)), none]) dc_X7_copy_110 (by decide) rfl rfl ?_
                    refine gh_drop (pc' := 0) [some (vR 32 0), some (vI a0), some (vI a1), some (vI a2), some (vI a3), some (vI a4), some (vI (nI 1)), some (vI (nI 0)), none] ⟨rfl, rfl, rfl, rfl, rfl, rfl, rfl, rfl, trivial⟩ ?_
                    obtain ⟨k, hw⟩ := hw
                    exact lk_X7_copy_112  hE  k _ _ _ _ _ _ _ _ hw
              · replace hw := hw.2 c23
                refine gh_aload_n dc_X7_copy_85 rfl ?_
                refine gh_iconst (v := (nI 2)) dc_X7_copy_86 gc_2 ?_
                refine gh_callVi (mi' := mi_X7_found) (as := [vI (nI 2)]) (S := []) (k := 32) (t := 0) dc_X7_copy_87 ml_RX7_60 ok_X7_found rfl rfl (by decide) (Nat.le_of_ble_eq_true rfl) (by decide) (by decide) rfl rfl (wk_X7_found _ _ _ hw) (fun r39 M40 hw => ?_)
                exact gh_iret dc_X7_copy_90 hE rfl hw
          · replace hw := hw.2 c15
            refine gh_aload_n dc_X7_copy_56 rfl ?_
            refine gh_iconst (v := (nI 5)) dc_X7_copy_57 gc_5 ?_
            refine gh_callVi (mi' := mi_X7_found) (as := [vI (nI 5)]) (S := []) (k := 32) (t := 0) dc_X7_copy_58 ml_RX7_60 ok_X7_found rfl rfl (by decide) (Nat.le_of_ble_eq_true rfl) (by decide) (by decide) rfl rfl (wk_X7_found _ _ _ hw) (fun r41 M42 hw => ?_)
            exact gh_iret dc_X7_copy_61 hE rfl hw
        · replace hw := hw.2 c12
          refine gh_aload_n dc_X7_copy_35 rfl ?_
          refine gh_iconst (v := (nI 1)) dc_X7_copy_36 gc_1 ?_
          refine gh_callVi (mi' := mi_X7_found) (as := [vI (nI 1)]) (S := []) (k := 32) (t := 0) dc_X7_copy_37 ml_RX7_60 ok_X7_found rfl rfl (by decide) (Nat.le_of_ble_eq_true rfl) (by decide) (by decide) rfl rfl (wk_X7_found _ _ _ hw) (fun r43 M44 hw => ?_)
          exact gh_iret dc_X7_copy_40 hE rfl hw
    · replace hw := hw.2 c6
      refine gh_ldc (v := (-1000001 : Int32)) dc_X7_copy_14 tw_898 ?_
      exact gh_iret dc_X7_copy_16 hE rfl hw
theorem wk_X7_drop   (Q : Int32 → gh_M → Prop) (a0 : Int32) (M : gh_M) (hw : wp_X7_drop  a0 M Q) : gh_Calls 3 mi_X7_drop [vR 32 0, vI a0] M (gh_Qi Q) := by
  refine gh_of (by decide) rfl 1 rfl (L0 := [some (vR 32 0), some (vI a0), none]) rfl (fun wd x hE => ?_)
  unfold wp_X7_drop at hw
  refine gh_iload_n dc_X7_drop_0 rfl ?_
  refine gh_callSi (mi' := mi_X7_isRow) (as := [vI a0]) (S := []) dc_X7_drop_1 ml_RX7_55 ok_X7_isRow rfl rfl (by decide) (Nat.le_of_ble_eq_true rfl) (wk_X7_isRow _ _ _ hw) (fun r1 M2 hw => ?_)
  refine gh_if_ne (tgt := 10) dc_X7_drop_4 rfl (fun c3 => ?_) (fun c3 => ?_)
  · replace hw := hw.1 c3
    refine gh_aload_n dc_X7_drop_10 rfl ?_
    refine gh_getR (k := 32) (t := 0) dc_X7_drop_11 fl_RX7_31 (by decide) (by decide) rfl rfl ?_
    refine gh_iload_n dc_X7_drop_14 rfl ?_
    obtain ⟨h4, hw⟩ := hw
    refine gh_iald (k := 40) (t := 0) dc_X7_drop_15 rfl (by decide) (by decide) h4 ?_
    refine gh_if_ge (tgt := 25) dc_X7_drop_16 rfl (fun c5 => ?_) (fun c5 => ?_)
    · replace hw := hw.1 c5
      refine gh_aload_n dc_X7_drop_25 rfl ?_
      refine gh_getR (k := 32) (t := 0) dc_X7_drop_26 fl_RX7_31 (by decide) (by decide) rfl rfl ?_
      refine gh_iload_n dc_X7_drop_29 rfl ?_
      obtain ⟨h6, hw⟩ := hw
      refine gh_iald (k := 40) (t := 0) dc_X7_drop_30 rfl (by decide) (by decide) h6 ?_
      obtain ⟨y2_7, ey2_7⟩ : ∃ z, z = (M2 40 0 a0.toNatClampNeg) := ⟨_, rfl⟩
      rw [← ey2_7]
      replace hw := hw _ ey2_7
      refine gh_istore_n (L' := [some (vR 32 0), some (vI a0), some (vI y2_7)]) dc_X7_drop_31 (by decide) rfl rfl ?_
      refine gh_aload_n dc_X7_drop_32 rfl ?_
      refine gh_getR (k := 32) (t := 0) dc_X7_drop_33 fl_RX7_31 (by decide) (by decide) rfl rfl ?_
      refine gh_iload_n dc_X7_drop_36 rfl ?_
      refine gh_iconst (v := (-1 : Int32)) dc_X7_drop_37 gc_m1 ?_
      obtain ⟨h8, hw⟩ := hw
      refine gh_iast (k := 40) (t := 0) dc_X7_drop_38 rfl (by decide) (by decide) h8 ?_
      obtain ⟨M9, eM9⟩ : ∃ z, z = (gh_st M2 40 0 a0.toNatClampNeg (-1 : Int32)) := ⟨_, rfl⟩
      rw [← eM9]
      replace hw := hw _ eM9
      refine gh_aload_n dc_X7_drop_39 rfl ?_
      refine gh_iload_n dc_X7_drop_40 rfl ?_
      refine gh_callVi (mi' := mi_X7_well) (as := [vI y2_7]) (S := []) (k := 32) (t := 0) dc_X7_drop_41 ml_RX7_64 ok_X7_well rfl rfl (by decide) (Nat.le_of_ble_eq_true rfl) (by decide) (by decide) rfl rfl (wk_X7_well _ _ _ hw) (fun r10 M11 hw => ?_)
      exact gh_iret dc_X7_drop_44 hE rfl hw
    · replace hw := hw.2 c5
      refine gh_aload_n dc_X7_drop_19 rfl ?_
      refine gh_iconst (v := (nI 1)) dc_X7_drop_20 gc_1 ?_
      refine gh_callVi (mi' := mi_X7_found) (as := [vI (nI 1)]) (S := []) (k := 32) (t := 0) dc_X7_drop_21 ml_RX7_60 ok_X7_found rfl rfl (by decide) (Nat.le_of_ble_eq_true rfl) (by decide) (by decide) rfl rfl (wk_X7_found _ _ _ hw) (fun r12 M13 hw => ?_)
      exact gh_iret dc_X7_drop_24 hE rfl hw
  · replace hw := hw.2 c3
    refine gh_ldc (v := (-1000001 : Int32)) dc_X7_drop_7 tw_898 ?_
    exact gh_iret dc_X7_drop_9 hE rfl hw
theorem wk_X7_feed   (Q : Int32 → gh_M → Prop) (a0 : Int32) (M : gh_M) (hw : wp_X7_feed  a0 M Q) : gh_Calls 2 mi_X7_feed [vR 32 0, vI a0] M (gh_Qi Q) := by
  refine gh_of (by decide) rfl 0 rfl (L0 := [some (vR 32 0), some (vI a0)]) rfl (fun wd x hE => ?_)
  unfold wp_X7_feed at hw
  refine gh_iload_n dc_X7_feed_0 rfl ?_
  refine gh_iconst (v := (nI 0)) dc_X7_feed_1 gc_0 ?_
  refine gh_sipush (v := (nI 255)) dc_X7_feed_2 gs_255 ?_
  refine gh_callSi (mi' := mi_X7_in) (as := [vI a0, vI (nI 0), vI (nI 255)]) (S := []) dc_X7_feed_5 ml_RX7_51 ok_X7_in rfl rfl (by decide) (Nat.le_of_ble_eq_true rfl) (wk_X7_in _ _ _ _ _ hw) (fun r1 M2 hw => ?_)
  refine gh_if_ne (tgt := 14) dc_X7_feed_8 rfl (fun c3 => ?_) (fun c3 => ?_)
  · replace hw := hw.1 c3
    refine gh_aload_n dc_X7_feed_14 rfl ?_
    refine gh_getI (k := 32) (t := 0) dc_X7_feed_15 fl_RX7_70 (by decide) (by decide) rfl rfl ?_
    refine gh_bipush (v := (nI 100)) dc_X7_feed_18 gb_100 ?_
    refine gh_icmp_ne (tgt := 26) dc_X7_feed_20 rfl (fun c4 => ?_) (fun c4 => ?_)
    · replace hw := hw.1 c4
      refine gh_aload_n dc_X7_feed_26 rfl ?_
      refine gh_getR (k := 32) (t := 0) dc_X7_feed_27 fl_RX7_22 (by decide) (by decide) rfl rfl ?_
      refine gh_aload_n dc_X7_feed_30 rfl ?_
      refine gh_getI (k := 32) (t := 0) dc_X7_feed_31 fl_RX7_70 (by decide) (by decide) rfl rfl ?_
      refine gh_iload_n dc_X7_feed_34 rfl ?_
      obtain ⟨h5, hw⟩ := hw
      refine gh_iast (k := 37) (t := 0) dc_X7_feed_35 rfl (by decide) (by decide) h5 ?_
      obtain ⟨M6, eM6⟩ : ∃ z, z = (gh_st M2 37 0 (M2 32 0 8).toNatClampNeg a0) := ⟨_, rfl⟩
      rw [← eM6]
      replace hw := hw _ eM6
      refine gh_aload_n dc_X7_feed_36 rfl ?_
      refine gh_dupR dc_X7_feed_37 ?_
      refine gh_getI (k := 32) (t := 0) dc_X7_feed_38 fl_RX7_70 (by decide) (by decide) rfl rfl ?_
      refine gh_iconst (v := (nI 1)) dc_X7_feed_41 gc_1 ?_
      refine gh_iadd dc_X7_feed_42 ?_
      refine gh_put (k := 32) (t := 0) dc_X7_feed_43 fl_RX7_70 (by decide) (by decide) rfl rfl (fun _ h => by cases h; rfl) rfl rfl ?_
      obtain ⟨M7, eM7⟩ : ∃ z, z = (gh_st M6 32 0 8 ((M6 32 0 8) + (nI 1))) := ⟨_, rfl⟩
      rw [← eM7]
      replace hw := hw _ eM7
      refine gh_aload_n dc_X7_feed_46 rfl ?_
      refine gh_getI (k := 32) (t := 0) dc_X7_feed_47 fl_RX7_70 (by decide) (by decide) rfl rfl ?_
      exact gh_iret dc_X7_feed_50 hE rfl hw
    · replace hw := hw.2 c4
      refine gh_ldc (v := (-1000003 : Int32)) dc_X7_feed_23 tw_928 ?_
      exact gh_iret dc_X7_feed_25 hE rfl hw
  · replace hw := hw.2 c3
    refine gh_ldc (v := (-1000001 : Int32)) dc_X7_feed_11 tw_898 ?_
    exact gh_iret dc_X7_feed_13 hE rfl hw
theorem wk_X7_fine   (Q : Int32 → gh_M → Prop)  (M : gh_M) (hw : wp_X7_fine   M Q) : gh_Calls 1 mi_X7_fine [vR 32 0] M (gh_Qi Q) := by
  refine gh_of (by decide) rfl 0 rfl (L0 := [some (vR 32 0)]) rfl (fun wd x hE => ?_)
  unfold wp_X7_fine at hw
  refine gh_aload_n dc_X7_fine_0 rfl ?_
  refine gh_getI (k := 32) (t := 0) dc_X7_fine_1 fl_RX7_74 (by decide) (by decide) rfl rfl ?_
  refine gh_if_ne (tgt := 11) dc_X7_fine_4 rfl (fun c1 => ?_) (fun c1 => ?_)
  · replace hw := hw.1 c1
    refine gh_iconst (v := (nI 0)) dc_X7_fine_11 gc_0 ?_
    exact gh_zret dc_X7_fine_12 hE rfl (by decide) hw
  · replace hw := hw.2 c1
    refine gh_iconst (v := (nI 1)) dc_X7_fine_7 gc_1 ?_
    refine gh_goto (tgt := 12) dc_X7_fine_8 rfl ?_
    exact gh_zret dc_X7_fine_12 hE rfl (by decide) hw
theorem wk_X7_here   (Q : Int32 → gh_M → Prop)  (M : gh_M) (hw : wp_X7_here   M Q) : gh_Calls 1 mi_X7_here [vR 32 0] M (gh_Qi Q) := by
  refine gh_of (by decide) rfl 0 rfl (L0 := [some (vR 32 0)]) rfl (fun wd x hE => ?_)
  unfold wp_X7_here at hw
  refine gh_aload_n dc_X7_here_0 rfl ?_
  refine gh_getI (k := 32) (t := 0) dc_X7_here_1 fl_RX7_84 (by decide) (by decide) rfl rfl ?_
  refine gh_aload_n dc_X7_here_4 rfl ?_
  refine gh_getI (k := 32) (t := 0) dc_X7_here_5 fl_RX7_70 (by decide) (by decide) rfl rfl ?_
  refine gh_icmp_ge (tgt := 23) dc_X7_here_8 rfl (fun c1 => ?_) (fun c1 => ?_)
  · replace hw := hw.1 c1
    refine gh_iconst (v := (nI 0)) dc_X7_here_23 gc_0 ?_
    exact gh_iret dc_X7_here_24 hE rfl hw
  · replace hw := hw.2 c1
    refine gh_aload_n dc_X7_here_11 rfl ?_
    refine gh_getR (k := 32) (t := 0) dc_X7_here_12 fl_RX7_22 (by decide) (by decide) rfl rfl ?_
    refine gh_aload_n dc_X7_here_15 rfl ?_
    refine gh_getI (k := 32) (t := 0) dc_X7_here_16 fl_RX7_84 (by decide) (by decide) rfl rfl ?_
    obtain ⟨h2, hw⟩ := hw
    refine gh_iald (k := 37) (t := 0) dc_X7_here_19 rfl (by decide) (by decide) h2 ?_
    refine gh_goto (tgt := 24) dc_X7_here_20 rfl ?_
    exact gh_iret dc_X7_here_24 hE rfl hw
theorem wk_X7_fail   (Q : gh_M → Prop) (a0 : Int32) (a1 : Int32) (M : gh_M) (hw : wp_X7_fail  a0 a1 M Q) : gh_Calls 2 mi_X7_fail [vR 32 0, vI a0, vI a1] M (gh_Qv Q) := by
  refine gh_of (by decide) rfl 0 rfl (L0 := [some (vR 32 0), some (vI a0), some (vI a1)]) rfl (fun wd x hE => ?_)
  unfold wp_X7_fail at hw
  refine gh_aload_n dc_X7_fail_0 rfl ?_
  refine gh_callVi (mi' := mi_X7_fine) (as := []) (S := []) (k := 32) (t := 0) dc_X7_fail_1 ml_RX7_77 ok_X7_fine rfl rfl (by decide) (Nat.le_of_ble_eq_true rfl) (by decide) (by decide) rfl rfl (wk_X7_fine _ _ hw) (fun r1 M2 hw => ?_)
  refine gh_if_eq (tgt := 17) dc_X7_fail_4 rfl (fun c3 => ?_) (fun c3 => ?_)
  · replace hw := hw.1 c3
    exact gh_vret dc_X7_fail_17 hE rfl hw
  · replace hw := hw.2 c3
    refine gh_aload_n dc_X7_fail_7 rfl ?_
    refine gh_iload_n dc_X7_fail_8 rfl ?_
    refine gh_put (k := 32) (t := 0) dc_X7_fail_9 fl_RX7_74 (by decide) (by decide) rfl rfl (fun _ h => by cases h; rfl) rfl rfl ?_
    obtain ⟨M4, eM4⟩ : ∃ z, z = (gh_st M2 32 0 17 a0) := ⟨_, rfl⟩
    rw [← eM4]
    replace hw := hw _ eM4
    refine gh_aload_n dc_X7_fail_12 rfl ?_
    refine gh_iload_n dc_X7_fail_13 rfl ?_
    refine gh_put (k := 32) (t := 0) dc_X7_fail_14 fl_RX7_81 (by decide) (by decide) rfl rfl (fun _ h => by cases h; rfl) rfl rfl ?_
    obtain ⟨M5, eM5⟩ : ∃ z, z = (gh_st M4 32 0 18 a1) := ⟨_, rfl⟩
    rw [← eM5]
    replace hw := hw _ eM5
    exact gh_vret dc_X7_fail_17 hE rfl hw
theorem wk_X7_sign   (Q : gh_M → Prop) (a0 : Int32) (M : gh_M) (hw : wp_X7_sign  a0 M Q) : gh_Calls 3 mi_X7_sign [vR 32 0, vI a0] M (gh_Qv Q) := by
  refine gh_of (by decide) rfl 0 rfl (L0 := [some (vR 32 0), some (vI a0)]) rfl (fun wd x hE => ?_)
  unfold wp_X7_sign at hw
  refine gh_aload_n dc_X7_sign_0 rfl ?_
  refine gh_callVi (mi' := mi_X7_fine) (as := []) (S := []) (k := 32) (t := 0) dc_X7_sign_1 ml_RX7_77 ok_X7_fine rfl rfl (by decide) (Nat.le_of_ble_eq_true rfl) (by decide) (by decide) rfl rfl (wk_X7_fine _ _ hw) (fun r1 M2 hw => ?_)
  refine gh_if_eq (tgt := 34) dc_X7_sign_4 rfl (fun c3 => ?_) (fun c3 => ?_)
  · replace hw := hw.1 c3
    exact gh_vret dc_X7_sign_34 hE rfl hw
  · replace hw := hw.2 c3
    refine gh_aload_n dc_X7_sign_7 rfl ?_
    refine gh_callVi (mi' := mi_X7_here) (as := []) (S := []) (k := 32) (t := 0) dc_X7_sign_8 ml_RX7_94 ok_X7_here rfl rfl (by decide) (Nat.le_of_ble_eq_true rfl) (by decide) (by decide) rfl rfl (wk_X7_here _ _ hw) (fun r4 M5 hw => ?_)
    refine gh_iload_n dc_X7_sign_11 rfl ?_
    refine gh_icmp_eq (tgt := 24) dc_X7_sign_12 rfl (fun c6 => ?_) (fun c6 => ?_)
    · replace hw := hw.1 c6
      refine gh_aload_n dc_X7_sign_24 rfl ?_
      refine gh_dupR dc_X7_sign_25 ?_
      refine gh_getI (k := 32) (t := 0) dc_X7_sign_26 fl_RX7_84 (by decide) (by decide) rfl rfl ?_
      refine gh_iconst (v := (nI 1)) dc_X7_sign_29 gc_1 ?_
      refine gh_iadd dc_X7_sign_30 ?_
      refine gh_put (k := 32) (t := 0) dc_X7_sign_31 fl_RX7_84 (by decide) (by decide) rfl rfl (fun _ h => by cases h; rfl) rfl rfl ?_
      obtain ⟨M7, eM7⟩ : ∃ z, z = (gh_st M5 32 0 16 ((M5 32 0 16) + (nI 1))) := ⟨_, rfl⟩
      rw [← eM7]
      replace hw := hw _ eM7
      exact gh_vret dc_X7_sign_34 hE rfl hw
    · replace hw := hw.2 c6
      refine gh_aload_n dc_X7_sign_15 rfl ?_
      refine gh_iconst (v := (nI 1)) dc_X7_sign_16 gc_1 ?_
      refine gh_aload_n dc_X7_sign_17 rfl ?_
      refine gh_getI (k := 32) (t := 0) dc_X7_sign_18 fl_RX7_84 (by decide) (by decide) rfl rfl ?_
      refine gh_callVv (mi' := mi_X7_fail) (as := [vI (nI 1), vI (M5 32 0 16)]) (S := []) (k := 32) (t := 0) dc_X7_sign_21 ml_RX7_90 ok_X7_fail rfl rfl (by decide) (Nat.le_of_ble_eq_true rfl) (by decide) (by decide) rfl rfl (wk_X7_fail _ _ _ _ hw) (fun M9 hw => ?_)
      refine gh_aload_n dc_X7_sign_24 rfl ?_
      refine gh_dupR dc_X7_sign_25 ?_
      refine gh_getI (k := 32) (t := 0) dc_X7_sign_26 fl_RX7_84 (by decide) (by decide) rfl rfl ?_
      refine gh_iconst (v := (nI 1)) dc_X7_sign_29 gc_1 ?_
      refine gh_iadd dc_X7_sign_30 ?_
      refine gh_put (k := 32) (t := 0) dc_X7_sign_31 fl_RX7_84 (by decide) (by decide) rfl rfl (fun _ h => by cases h; rfl) rfl rfl ?_
      obtain ⟨M10, eM10⟩ : ∃ z, z = (gh_st M9 32 0 16 ((M9 32 0 16) + (nI 1))) := ⟨_, rfl⟩
      rw [← eM10]
      replace hw := hw _ eM10
      exact gh_vret dc_X7_sign_34 hE rfl hw
theorem wk_X7_isFigure   (Q : Int32 → gh_M → Prop) (a0 : Int32) (M : gh_M) (hw : wp_X7_isFigure  a0 M Q) : gh_Calls 2 mi_X7_isFigure [vR 32 0, vI a0] M (gh_Qi Q) := by
  refine gh_of (by decide) rfl 0 rfl (L0 := [some (vR 32 0), some (vI a0)]) rfl (fun wd x hE => ?_)
  unfold wp_X7_isFigure at hw
  refine gh_iload_n dc_X7_isFigure_0 rfl ?_
  refine gh_aload_n dc_X7_isFigure_1 rfl ?_
  refine gh_getI (k := 32) (t := 0) dc_X7_isFigure_2 fl_RX7_70 (by decide) (by decide) rfl rfl ?_
  refine gh_icmp_ge (tgt := 28) dc_X7_isFigure_5 rfl (fun c1 => ?_) (fun c1 => ?_)
  · replace hw := hw.1 c1
    refine gh_iconst (v := (nI 0)) dc_X7_isFigure_28 gc_0 ?_
    exact gh_zret dc_X7_isFigure_29 hE rfl (by decide) hw
  · replace hw := hw.2 c1
    refine gh_aload_n dc_X7_isFigure_8 rfl ?_
    refine gh_getR (k := 32) (t := 0) dc_X7_isFigure_9 fl_RX7_22 (by decide) (by decide) rfl rfl ?_
    refine gh_iload_n dc_X7_isFigure_12 rfl ?_
    obtain ⟨h2, hw⟩ := hw
    refine gh_iald (k := 37) (t := 0) dc_X7_isFigure_13 rfl (by decide) (by decide) h2 ?_
    refine gh_bipush (v := (nI 48)) dc_X7_isFigure_14 gb_48 ?_
    refine gh_bipush (v := (nI 57)) dc_X7_isFigure_16 gb_57 ?_
    refine gh_callSi (mi' := mi_X7_in) (as := [vI (M 37 0 a0.toNatClampNeg), vI (nI 48), vI (nI 57)]) (S := []) dc_X7_isFigure_18 ml_RX7_51 ok_X7_in rfl rfl (by decide) (Nat.le_of_ble_eq_true rfl) (wk_X7_in _ _ _ _ _ hw) (fun r3 M4 hw => ?_)
    refine gh_if_eq (tgt := 28) dc_X7_isFigure_21 rfl (fun c5 => ?_) (fun c5 => ?_)
    · replace hw := hw.1 c5
      refine gh_iconst (v := (nI 0)) dc_X7_isFigure_28 gc_0 ?_
      exact gh_zret dc_X7_isFigure_29 hE rfl (by decide) hw
    · replace hw := hw.2 c5
      refine gh_iconst (v := (nI 1)) dc_X7_isFigure_24 gc_1 ?_
      refine gh_goto (tgt := 29) dc_X7_isFigure_25 rfl ?_
      exact gh_zret dc_X7_isFigure_29 hE rfl (by decide) hw
theorem lk_X7_number_17 {wd : gh_Wd} {x : gh_X} {Q : Int32 → gh_M → Prop}   (hE : gh_E wd (gh_Qi Q) x)   : ∀ (n : Nat) (x1 : Int32) (x2 : Int32) (x3 : Int32) (x4 : Int32) (M : gh_M), wl_X7_number_17 Q n x1 x2 x3 x4 M → gh_J mi_X7_number 3 wd x M 17 [some (vR 32 0), some (vI x1), some (vI x2), some (vI x3), some (vI x4)] [] := by
  intro n
  induction n with
  | zero => intro x1 x2 x3 x4 M hw; exact hw.elim
  | succ n ih =>
    intro x1 x2 x3 x4 M hw
    unfold wl_X7_number_17 at hw
    refine gh_aload_n dc_X7_number_17 rfl ?_
    refine gh_aload_n dc_X7_number_18 rfl ?_
    refine gh_getI (k := 32) (t := 0) dc_X7_number_19 fl_RX7_84 (by decide) (by decide) rfl rfl ?_
    refine gh_callVi (mi' := mi_X7_isFigure) (as := [vI (M 32 0 16)]) (S := []) (k := 32) (t := 0) dc_X7_number_22 ml_RX7_87 ok_X7_isFigure rfl rfl (by decide) (Nat.le_of_ble_eq_true rfl) (by decide) (by decide) rfl rfl (wk_X7_isFigure _ _ _ hw) (fun r5 M6 hw => ?_)
    refine gh_if_eq (tgt := 76) dc_X7_number_25 rfl (fun c7 => ?_) (fun c7 => ?_)
    · replace hw := hw.1 c7
      refine gh_aload_n dc_X7_number_76 rfl ?_
      refine gh_getI (k := 32) (t := 0) dc_X7_number_77 fl_RX7_84 (by decide) (by decide) rfl rfl ?_
      refine gh_iload_n dc_X7_number_80 rfl ?_
      refine gh_icmp_eq (tgt := 94) dc_X7_number_81 rfl (fun c8 => ?_) (fun c8 => ?_)
      · replace hw := hw.1 c8
        refine gh_aload_n dc_X7_number_94 rfl ?_
        refine gh_iconst (v := (nI 1)) dc_X7_number_95 gc_1 ?_
        refine gh_iload_n dc_X7_number_96 rfl ?_
        refine gh_callVv (mi' := mi_X7_fail) (as := [vI (nI 1), vI x3]) (S := []) (k := 32) (t := 0) dc_X7_number_97 ml_RX7_90 ok_X7_fail rfl rfl (by decide) (Nat.le_of_ble_eq_true rfl) (by decide) (by decide) rfl rfl (wk_X7_fail _ _ _ _ hw) (fun M10 hw => ?_)
        refine gh_goto (tgt := 119) dc_X7_number_100 rfl ?_
        refine gh_iload dc_X7_number_119 rfl ?_
        exact gh_iret dc_X7_number_121 hE rfl hw
      · replace hw := hw.2 c8
        refine gh_aload_n dc_X7_number_84 rfl ?_
        refine gh_getI (k := 32) (t := 0) dc_X7_number_85 fl_RX7_84 (by decide) (by decide) rfl rfl ?_
        refine gh_iload_n dc_X7_number_88 rfl ?_
        refine gh_isub dc_X7_number_89 ?_
        refine gh_iconst (v := (nI 2)) dc_X7_number_90 gc_2 ?_
        refine gh_icmp_le (tgt := 103) dc_X7_number_91 rfl (fun c11 => ?_) (fun c11 => ?_)
        · replace hw := hw.1 c11
          refine gh_iload dc_X7_number_103 rfl ?_
          refine gh_iload_n dc_X7_number_105 rfl ?_
          refine gh_iload_n dc_X7_number_106 rfl ?_
          refine gh_callSi (mi' := mi_X7_in) (as := [vI x4, vI x1, vI x2]) (S := []) dc_X7_number_107 ml_RX7_51 ok_X7_in rfl rfl (by decide) (Nat.le_of_ble_eq_true rfl) (wk_X7_in _ _ _ _ _ hw) (fun r12 M13 hw => ?_)
          refine gh_if_ne (tgt := 119) dc_X7_number_110 rfl (fun c14 => ?_) (fun c14 => ?_)
          · replace hw := hw.1 c14
            refine gh_iload dc_X7_number_119 rfl ?_
            exact gh_iret dc_X7_number_121 hE rfl hw
          · replace hw := hw.2 c14
            refine gh_aload_n dc_X7_number_113 rfl ?_
            refine gh_iconst (v := (nI 2)) dc_X7_number_114 gc_2 ?_
            refine gh_iload_n dc_X7_number_115 rfl ?_
            refine gh_callVv (mi' := mi_X7_fail) (as := [vI (nI 2), vI x3]) (S := []) (k := 32) (t := 0) dc_X7_number_116 ml_RX7_90 ok_X7_fail rfl rfl (by decide) (Nat.le_of_ble_eq_true rfl) (by decide) (by decide) rfl rfl (wk_X7_fail _ _ _ _ hw) (fun M16 hw => ?_)
            refine gh_iload dc_X7_number_119 rfl ?_
            exact gh_iret dc_X7_number_121 hE rfl hw
        · replace hw := hw.2 c11
          refine gh_aload_n dc_X7_number_94 rfl ?_
          refine gh_iconst (v := (nI 1)) dc_X7_number_95 gc_1 ?_
          refine gh_iload_n dc_X7_number_96 rfl ?_
          refine gh_callVv (mi' := mi_X7_fail) (as := [vI (nI 1), vI x3]) (S := []) (k := 32) (t := 0) dc_X7_number_97 ml_RX7_90 ok_X7_fail rfl rfl (by decide) (Nat.le_of_ble_eq_true rfl) (by decide) (by decide) rfl rfl (wk_X7_fail _ _ _ _ hw) (fun M18 hw => ?_)
          refine gh_goto (tgt := 119) dc_X7_number_100 rfl ?_
          refine gh_iload dc_X7_number_119 rfl ?_
          exact gh_iret dc_X7_number_121 hE rfl hw
    · replace hw := hw.2 c7
      refine gh_aload_n dc_X7_number_28 rfl ?_
      refine gh_getI (k := 32) (t := 0) dc_X7_number_29 fl_RX7_84 (by decide) (by decide) rfl rfl ?_
      refine gh_iload_n dc_X7_number_32 rfl ?_
      refine gh_isub dc_X7_number_33 ?_
      refine gh_iconst (v := (nI 2)) dc_X7_number_34 gc_2 ?_
      refine gh_icmp_ge (tgt := 59) dc_X7_number_35 rfl (fun c19 => ?_) (fun c19 => ?_)
      · replace hw := hw.1 c19
        refine gh_iload dc_X7_number_59 rfl ?_
        refine gh_istore (L' := [some (vR 32 0), some (vI x1), some (vI x2), some (vI x3), some (vI x4)]) dc_X7_number_61 (by decide) rfl rfl ?_
        refine gh_aload_n dc_X7_number_63 rfl ?_
        refine gh_dupR dc_X7_number_64 ?_
        refine gh_getI (k := 32) (t := 0) dc_X7_number_65 fl_RX7_84 (by decide) (by decide) rfl rfl ?_
        refine gh_iconst (v := (nI 1)) dc_X7_number_68 gc_1 ?_
        refine gh_iadd dc_X7_number_69 ?_
        refine gh_put (k := 32) (t := 0) dc_X7_number_70 fl_RX7_84 (by decide) (by decide) rfl rfl (fun _ h => by cases h; rfl) rfl rfl ?_
        obtain ⟨M20, eM20⟩ : ∃ z, z = (gh_st M6 32 0 16 ((M6 32 0 16) + (nI 1))) := ⟨_, rfl⟩
        rw [← eM20]
        replace hw := hw _ eM20
        refine gh_goto (tgt := 17) dc_X7_number_73 rfl ?_
        refine gh_drop (pc' := 0) [some (vR 32 0), some (vI x1), some (vI x2), some (vI x3), some (vI x4)] ⟨rfl, rfl, rfl, rfl, rfl, trivial⟩ ?_
        exact ih _ _ _ _ _ hw
      · replace hw := hw.2 c19
        refine gh_bipush (v := (nI 10)) dc_X7_number_38 gb_10 ?_
        refine gh_iload dc_X7_number_40 rfl ?_
        refine gh_imul dc_X7_number_42 ?_
        refine gh_aload_n dc_X7_number_43 rfl ?_
        refine gh_getR (k := 32) (t := 0) dc_X7_number_44 fl_RX7_22 (by decide) (by decide) rfl rfl ?_
        refine gh_aload_n dc_X7_number_47 rfl ?_
        refine gh_getI (k := 32) (t := 0) dc_X7_number_48 fl_RX7_84 (by decide) (by decide) rfl rfl ?_
        obtain ⟨h21, hw⟩ := hw
        refine gh_iald (k := 37) (t := 0) dc_X7_number_51 rfl (by decide) (by decide) h21 ?_
        refine gh_iadd dc_X7_number_52 ?_
        refine gh_bipush (v := (nI 48)) dc_X7_number_53 gb_48 ?_
        refine gh_isub dc_X7_number_55 ?_
        refine gh_goto (tgt := 61) dc_X7_number_56 rfl ?_
        obtain ⟨y4_22, ey4_22⟩ : ∃ z, z = ((((nI 10) * x4) + (M6 37 0 (M6 32 0 16).toNatClampNeg)) - (nI 48)) := ⟨_, rfl⟩
        rw [← ey4_22]
        replace hw := hw _ ey4_22
        refine gh_istore (L' := [some (vR 32 0), some (vI x1), some (vI x2), some (vI x3), some (vI y4_22)]) dc_X7_number_61 (by decide) rfl rfl ?_
        refine gh_aload_n dc_X7_number_63 rfl ?_
        refine gh_dupR dc_X7_number_64 ?_
        refine gh_getI (k := 32) (t := 0) dc_X7_number_65 fl_RX7_84 (by decide) (by decide) rfl rfl ?_
        refine gh_iconst (v := (nI 1)) dc_X7_number_68 gc_1 ?_
        refine gh_iadd dc_X7_number_69 ?_
        refine gh_put (k := 32) (t := 0) dc_X7_number_70 fl_RX7_84 (by decide) (by decide) rfl rfl (fun _ h => by cases h; rfl) rfl rfl ?_
        obtain ⟨M23, eM23⟩ : ∃ z, z = (gh_st M6 32 0 16 ((M6 32 0 16) + (nI 1))) := ⟨_, rfl⟩
        rw [← eM23]
        replace hw := hw _ eM23
        refine gh_goto (tgt := 17) dc_X7_number_73 rfl ?_
        refine gh_drop (pc' := 0) [some (vR 32 0), some (vI x1), some (vI x2), some (vI x3), some (vI y4_22)] ⟨rfl, rfl, rfl, rfl, rfl, trivial⟩ ?_
        exact ih _ _ _ _ _ hw
theorem wk_X7_number   (Q : Int32 → gh_M → Prop) (a0 : Int32) (a1 : Int32) (M : gh_M) (hw : wp_X7_number  a0 a1 M Q) : gh_Calls 3 mi_X7_number [vR 32 0, vI a0, vI a1] M (gh_Qi Q) := by
  refine gh_of (by decide) rfl 2 rfl (L0 := [some (vR 32 0), some (vI a0), some (vI a1), none, none]) rfl (fun wd x hE => ?_)
  unfold wp_X7_number at hw
  refine gh_aload_n dc_X7_number_0 rfl ?_
  refine gh_callVi (mi' := mi_X7_fine) (as := []) (S := []) (k := 32) (t := 0) dc_X7_number_1 ml_RX7_77 ok_X7_fine rfl rfl (by decide) (Nat.le_of_ble_eq_true rfl) (by decide) (by decide) rfl rfl (wk_X7_fine _ _ hw) (fun r1 M2 hw => ?_)
  refine gh_if_ne (tgt := 9) dc_X7_number_4 rfl (fun c3 => ?_) (fun c3 => ?_)
  · replace hw := hw.1 c3
    refine gh_aload_n dc_X7_number_9 rfl ?_
    refine gh_getI (k := 32) (t := 0) dc_X7_number_10 fl_RX7_84 (by decide) (by decide) rfl rfl ?_
    obtain ⟨y3_4, ey3_4⟩ : ∃ z, z = (M2 32 0 16) := ⟨_, rfl⟩
    rw [← ey3_4]
    replace hw := hw _ ey3_4
    refine gh_istore_n (L' := [some (vR 32 0), some (vI a0), some (vI a1), some (vI y3_4), none]) dc_X7_number_13 (by decide) rfl rfl ?_
    refine gh_iconst (v := (nI 0)) dc_X7_number_14 gc_0 ?_
    refine gh_istore (L' := [some (vR 32 0), some (vI a0), some (vI a1), some (vI y3_4), some (vI (nI 0))]) dc_X7_number_15 (by decide) rfl rfl ?_
    refine gh_drop (pc' := 0) [some (vR 32 0), some (vI a0), some (vI a1), some (vI y3_4), some (vI (nI 0))] ⟨rfl, rfl, rfl, rfl, rfl, trivial⟩ ?_
    obtain ⟨k, hw⟩ := hw
    exact lk_X7_number_17  hE  k _ _ _ _ _ hw
  · replace hw := hw.2 c3
    refine gh_iload_n dc_X7_number_7 rfl ?_
    exact gh_iret dc_X7_number_8 hE rfl hw
theorem wk_X7_kindOf   (Q : Int32 → gh_M → Prop) (a0 : Int32) (M : gh_M) (hw : wp_X7_kindOf  a0 M Q) : gh_Calls 1 mi_X7_kindOf [vI a0] M (gh_Qi Q) := by
  refine gh_of (by decide) rfl 0 rfl (L0 := [some (vI a0)]) rfl (fun wd x hE => ?_)
  unfold wp_X7_kindOf at hw
  refine gh_iload_n dc_X7_kindOf_0 rfl ?_
  refine (Decidable.em (a0 = (nI 98))).elim (fun c1 => ?_) (fun c1 => ?_)
  · replace hw := hw.1 c1
    refine gh_lookup (tgt := 54) dc_X7_kindOf_1 (by decide) (by rw [c1]; try rfl) rfl ?_
    refine gh_iconst (v := (nI 2)) dc_X7_kindOf_54 gc_2 ?_
    exact gh_iret dc_X7_kindOf_55 hE rfl hw
  · replace hw := hw.2 c1
    refine (Decidable.em (a0 = (nI 104))).elim (fun c2 => ?_) (fun c2 => ?_)
    · replace hw := hw.1 c2
      refine gh_lookup (tgt := 56) dc_X7_kindOf_1 (by decide) (by rw [c2]; try rfl) rfl ?_
      refine gh_iconst (v := (nI 3)) dc_X7_kindOf_56 gc_3 ?_
      exact gh_iret dc_X7_kindOf_57 hE rfl hw
    · replace hw := hw.2 c2
      refine (Decidable.em (a0 = (nI 109))).elim (fun c3 => ?_) (fun c3 => ?_)
      · replace hw := hw.1 c3
        refine gh_lookup (tgt := 58) dc_X7_kindOf_1 (by decide) (by rw [c3]; try rfl) rfl ?_
        refine gh_iconst (v := (nI 4)) dc_X7_kindOf_58 gc_4 ?_
        exact gh_iret dc_X7_kindOf_59 hE rfl hw
      · replace hw := hw.2 c3
        refine (Decidable.em (a0 = (nI 111))).elim (fun c4 => ?_) (fun c4 => ?_)
        · replace hw := hw.1 c4
          refine gh_lookup (tgt := 60) dc_X7_kindOf_1 (by decide) (by rw [c4]; try rfl) rfl ?_
          refine gh_iconst (v := (nI 5)) dc_X7_kindOf_60 gc_5 ?_
          exact gh_iret dc_X7_kindOf_61 hE rfl hw
        · replace hw := hw.2 c4
          refine (Decidable.em (a0 = (nI 115))).elim (fun c5 => ?_) (fun c5 => ?_)
          · replace hw := hw.1 c5
            refine gh_lookup (tgt := 52) dc_X7_kindOf_1 (by decide) (by rw [c5]; try rfl) rfl ?_
            refine gh_iconst (v := (nI 1)) dc_X7_kindOf_52 gc_1 ?_
            exact gh_iret dc_X7_kindOf_53 hE rfl hw
          · replace hw := hw.2 c5
            refine gh_lookup (tgt := 62) dc_X7_kindOf_1 (by decide) ((lv_osw c1 (by decide)).trans ((lv_osw c2 (by decide)).trans ((lv_osw c3 (by decide)).trans ((lv_osw c4 (by decide)).trans ((lv_osw c5 (by decide)).trans (rfl)))))) rfl ?_
            refine gh_iconst (v := (nI 0)) dc_X7_kindOf_62 gc_0 ?_
            exact gh_iret dc_X7_kindOf_63 hE rfl hw
theorem wk_X7_carAt   (Q : Int32 → gh_M → Prop) (a0 : Int32) (a1 : Int32) (M : gh_M) (hw : wp_X7_carAt  a0 a1 M Q) : gh_Calls 1 mi_X7_carAt [vI a0, vI a1] M (gh_Qi Q) := by
  refine gh_of (by decide) rfl 0 rfl (L0 := [some (vI a0), some (vI a1)]) rfl (fun wd x hE => ?_)
  unfold wp_X7_carAt at hw
  refine gh_iload_n dc_X7_carAt_0 rfl ?_
  refine gh_bipush (v := (nI 29)) dc_X7_carAt_1 gb_29 ?_
  refine gh_iadd dc_X7_carAt_3 ?_
  refine gh_bipush (v := (nI 7)) dc_X7_carAt_4 gb_7 ?_
  refine gh_iload_n dc_X7_carAt_6 rfl ?_
  refine gh_imul dc_X7_carAt_7 ?_
  refine gh_iadd dc_X7_carAt_8 ?_
  exact gh_iret dc_X7_carAt_9 hE rfl hw
theorem wk_X7_readCar   (Q : gh_M → Prop)  (M : gh_M) (hw : wp_X7_readCar   M Q) : gh_Calls 4 mi_X7_readCar [vR 32 0] M (gh_Qv Q) := by
  refine gh_of (by decide) rfl 2 rfl (L0 := [some (vR 32 0), none, none]) rfl (fun wd x hE => ?_)
  unfold wp_X7_readCar at hw
  refine gh_aload_n dc_X7_readCar_0 rfl ?_
  refine gh_getR (k := 32) (t := 0) dc_X7_readCar_1 fl_RX7_7 (by decide) (by decide) rfl rfl ?_
  refine gh_sipush (v := (nI 1919)) dc_X7_readCar_4 gs_1919 ?_
  obtain ⟨h1, hw⟩ := hw
  refine gh_iald (k := 33) (t := 0) dc_X7_readCar_7 rfl (by decide) (by decide) h1 ?_
  obtain ⟨y1_2, ey1_2⟩ : ∃ z, z = (M 33 0 (nI 1919).toNatClampNeg) := ⟨_, rfl⟩
  rw [← ey1_2]
  replace hw := hw _ ey1_2
  refine gh_istore_n (L' := [some (vR 32 0), some (vI y1_2), none]) dc_X7_readCar_8 (by decide) rfl rfl ?_
  refine gh_iload_n dc_X7_readCar_9 rfl ?_
  refine gh_bipush (v := (nI 6)) dc_X7_readCar_10 gb_6 ?_
  refine gh_icmp_ne (tgt := 25) dc_X7_readCar_12 rfl (fun c3 => ?_) (fun c3 => ?_)
  · replace hw := hw.1 c3
    refine gh_sipush (v := (nI 1917)) dc_X7_readCar_25 gs_1917 ?_
    refine gh_iload_n dc_X7_readCar_28 rfl ?_
    refine gh_callSi (mi' := mi_X7_carAt) (as := [vI (nI 1917), vI y1_2]) (S := []) dc_X7_readCar_29 ml_RX7_112 ok_X7_carAt rfl rfl (by decide) (Nat.le_of_ble_eq_true rfl) (wk_X7_carAt _ _ _ _ hw) (fun r4 M5 hw => ?_)
    refine gh_istore_n (L' := [some (vR 32 0), some (vI y1_2), some (vI r4)]) dc_X7_readCar_32 (by decide) rfl rfl ?_
    refine gh_aload_n dc_X7_readCar_33 rfl ?_
    refine gh_dupR dc_X7_readCar_34 ?_
    refine gh_getI (k := 32) (t := 0) dc_X7_readCar_35 fl_RX7_84 (by decide) (by decide) rfl rfl ?_
    refine gh_iconst (v := (nI 1)) dc_X7_readCar_38 gc_1 ?_
    refine gh_iadd dc_X7_readCar_39 ?_
    refine gh_put (k := 32) (t := 0) dc_X7_readCar_40 fl_RX7_84 (by decide) (by decide) rfl rfl (fun _ h => by cases h; rfl) rfl rfl ?_
    obtain ⟨M6, eM6⟩ : ∃ z, z = (gh_st M5 32 0 16 ((M5 32 0 16) + (nI 1))) := ⟨_, rfl⟩
    rw [← eM6]
    replace hw := hw _ eM6
    refine gh_aload_n dc_X7_readCar_43 rfl ?_
    refine gh_getR (k := 32) (t := 0) dc_X7_readCar_44 fl_RX7_7 (by decide) (by decide) rfl rfl ?_
    refine gh_iload_n dc_X7_readCar_47 rfl ?_
    refine gh_aload_n dc_X7_readCar_48 rfl ?_
    refine gh_iconst (v := (nI 1)) dc_X7_readCar_49 gc_1 ?_
    refine gh_iconst (v := (nI 4)) dc_X7_readCar_50 gc_4 ?_
    refine gh_callVi (mi' := mi_X7_number) (as := [vI (nI 1), vI (nI 4)]) (S := [vI r4, vR 33 0]) (k := 32) (t := 0) dc_X7_readCar_51 ml_RX7_105 ok_X7_number rfl rfl (by decide) (Nat.le_of_ble_eq_true rfl) (by decide) (by decide) rfl rfl (wk_X7_number _ _ _ _ hw) (fun r7 M8 hw => ?_)
    obtain ⟨h9, hw⟩ := hw
    refine gh_iast (k := 33) (t := 0) dc_X7_readCar_54 rfl (by decide) (by decide) h9 ?_
    obtain ⟨M10, eM10⟩ : ∃ z, z = (gh_st M8 33 0 r4.toNatClampNeg r7) := ⟨_, rfl⟩
    rw [← eM10]
    replace hw := hw _ eM10
    refine gh_aload_n dc_X7_readCar_55 rfl ?_
    refine gh_bipush (v := (nI 44)) dc_X7_readCar_56 gb_44 ?_
    refine gh_callVv (mi' := mi_X7_sign) (as := [vI (nI 44)]) (S := []) (k := 32) (t := 0) dc_X7_readCar_58 ml_RX7_108 ok_X7_sign rfl rfl (by decide) (Nat.le_of_ble_eq_true rfl) (by decide) (by decide) rfl rfl (wk_X7_sign _ _ _ hw) (fun M12 hw => ?_)
    refine gh_aload_n dc_X7_readCar_61 rfl ?_
    refine gh_getR (k := 32) (t := 0) dc_X7_readCar_62 fl_RX7_7 (by decide) (by decide) rfl rfl ?_
    refine gh_iload_n dc_X7_readCar_65 rfl ?_
    refine gh_iconst (v := (nI 1)) dc_X7_readCar_66 gc_1 ?_
    refine gh_iadd dc_X7_readCar_67 ?_
    refine gh_aload_n dc_X7_readCar_68 rfl ?_
    refine gh_iconst (v := (nI 1)) dc_X7_readCar_69 gc_1 ?_
    refine gh_bipush (v := (nI 60)) dc_X7_readCar_70 gb_60 ?_
    refine gh_callVi (mi' := mi_X7_number) (as := [vI (nI 1), vI (nI 60)]) (S := [vI (r4 + (nI 1)), vR 33 0]) (k := 32) (t := 0) dc_X7_readCar_72 ml_RX7_105 ok_X7_number rfl rfl (by decide) (Nat.le_of_ble_eq_true rfl) (by decide) (by decide) rfl rfl (wk_X7_number _ _ _ _ hw) (fun r13 M14 hw => ?_)
    obtain ⟨h15, hw⟩ := hw
    refine gh_iast (k := 33) (t := 0) dc_X7_readCar_75 rfl (by decide) (by decide) h15 ?_
    obtain ⟨M16, eM16⟩ : ∃ z, z = (gh_st M14 33 0 (r4 + (nI 1)).toNatClampNeg r13) := ⟨_, rfl⟩
    rw [← eM16]
    replace hw := hw _ eM16
    refine gh_aload_n dc_X7_readCar_76 rfl ?_
    refine gh_bipush (v := (nI 44)) dc_X7_readCar_77 gb_44 ?_
    refine gh_callVv (mi' := mi_X7_sign) (as := [vI (nI 44)]) (S := []) (k := 32) (t := 0) dc_X7_readCar_79 ml_RX7_108 ok_X7_sign rfl rfl (by decide) (Nat.le_of_ble_eq_true rfl) (by decide) (by decide) rfl rfl (wk_X7_sign _ _ _ hw) (fun M18 hw => ?_)
    refine gh_aload_n dc_X7_readCar_82 rfl ?_
    refine gh_getR (k := 32) (t := 0) dc_X7_readCar_83 fl_RX7_7 (by decide) (by decide) rfl rfl ?_
    refine gh_iload_n dc_X7_readCar_86 rfl ?_
    refine gh_iconst (v := (nI 2)) dc_X7_readCar_87 gc_2 ?_
    refine gh_iadd dc_X7_readCar_88 ?_
    refine gh_aload_n dc_X7_readCar_89 rfl ?_
    refine gh_iconst (v := (nI 1)) dc_X7_readCar_90 gc_1 ?_
    refine gh_iconst (v := (nI 3)) dc_X7_readCar_91 gc_3 ?_
    refine gh_callVi (mi' := mi_X7_number) (as := [vI (nI 1), vI (nI 3)]) (S := [vI (r4 + (nI 2)), vR 33 0]) (k := 32) (t := 0) dc_X7_readCar_92 ml_RX7_105 ok_X7_number rfl rfl (by decide) (Nat.le_of_ble_eq_true rfl) (by decide) (by decide) rfl rfl (wk_X7_number _ _ _ _ hw) (fun r19 M20 hw => ?_)
    obtain ⟨h21, hw⟩ := hw
    refine gh_iast (k := 33) (t := 0) dc_X7_readCar_95 rfl (by decide) (by decide) h21 ?_
    obtain ⟨M22, eM22⟩ : ∃ z, z = (gh_st M20 33 0 (r4 + (nI 2)).toNatClampNeg r19) := ⟨_, rfl⟩
    rw [← eM22]
    replace hw := hw _ eM22
    refine gh_aload_n dc_X7_readCar_96 rfl ?_
    refine gh_bipush (v := (nI 59)) dc_X7_readCar_97 gb_59 ?_
    refine gh_callVv (mi' := mi_X7_sign) (as := [vI (nI 59)]) (S := []) (k := 32) (t := 0) dc_X7_readCar_99 ml_RX7_108 ok_X7_sign rfl rfl (by decide) (Nat.le_of_ble_eq_true rfl) (by decide) (by decide) rfl rfl (wk_X7_sign _ _ _ hw) (fun M24 hw => ?_)
    refine gh_aload_n dc_X7_readCar_102 rfl ?_
    refine gh_getR (k := 32) (t := 0) dc_X7_readCar_103 fl_RX7_7 (by decide) (by decide) rfl rfl ?_
    refine gh_iload_n dc_X7_readCar_106 rfl ?_
    refine gh_iconst (v := (nI 3)) dc_X7_readCar_107 gc_3 ?_
    refine gh_iadd dc_X7_readCar_108 ?_
    refine gh_bipush (v := (nI 20)) dc_X7_readCar_109 gb_20 ?_
    obtain ⟨h25, hw⟩ := hw
    refine gh_iast (k := 33) (t := 0) dc_X7_readCar_111 rfl (by decide) (by decide) h25 ?_
    obtain ⟨M26, eM26⟩ : ∃ z, z = (gh_st M24 33 0 (r4 + (nI 3)).toNatClampNeg (nI 20)) := ⟨_, rfl⟩
    rw [← eM26]
    replace hw := hw _ eM26
    refine gh_aload_n dc_X7_readCar_112 rfl ?_
    refine gh_getR (k := 32) (t := 0) dc_X7_readCar_113 fl_RX7_7 (by decide) (by decide) rfl rfl ?_
    refine gh_sipush (v := (nI 1919)) dc_X7_readCar_116 gs_1919 ?_
    refine gh_dup2 dc_X7_readCar_119 ?_
    obtain ⟨h27, hw⟩ := hw
    refine gh_iald (k := 33) (t := 0) dc_X7_readCar_120 rfl (by decide) (by decide) h27 ?_
    refine gh_iconst (v := (nI 1)) dc_X7_readCar_121 gc_1 ?_
    refine gh_iadd dc_X7_readCar_122 ?_
    obtain ⟨h28, hw⟩ := hw
    refine gh_iast (k := 33) (t := 0) dc_X7_readCar_123 rfl (by decide) (by decide) h28 ?_
    obtain ⟨M29, eM29⟩ : ∃ z, z = (gh_st M26 33 0 (nI 1919).toNatClampNeg ((M26 33 0 (nI 1919).toNatClampNeg) + (nI 1))) := ⟨_, rfl⟩
    rw [← eM29]
    replace hw := hw _ eM29
    exact gh_vret dc_X7_readCar_124 hE rfl hw
  · replace hw := hw.2 c3
    refine gh_aload_n dc_X7_readCar_15 rfl ?_
    refine gh_iconst (v := (nI 3)) dc_X7_readCar_16 gc_3 ?_
    refine gh_aload_n dc_X7_readCar_17 rfl ?_
    refine gh_getI (k := 32) (t := 0) dc_X7_readCar_18 fl_RX7_84 (by decide) (by decide) rfl rfl ?_
    refine gh_callVv (mi' := mi_X7_fail) (as := [vI (nI 3), vI (M 32 0 16)]) (S := []) (k := 32) (t := 0) dc_X7_readCar_21 ml_RX7_90 ok_X7_fail rfl rfl (by decide) (Nat.le_of_ble_eq_true rfl) (by decide) (by decide) rfl rfl (wk_X7_fail _ _ _ _ hw) (fun M31 hw => ?_)
    exact gh_vret dc_X7_readCar_24 hE rfl hw
theorem wk_X7_trickAt   (Q : Int32 → gh_M → Prop) (a0 : Int32) (a1 : Int32) (M : gh_M) (hw : wp_X7_trickAt  a0 a1 M Q) : gh_Calls 1 mi_X7_trickAt [vI a0, vI a1] M (gh_Qi Q) := by
  refine gh_of (by decide) rfl 0 rfl (L0 := [some (vI a0), some (vI a1)]) rfl (fun wd x hE => ?_)
  unfold wp_X7_trickAt at hw
  refine gh_iload_n dc_X7_trickAt_0 rfl ?_
  refine gh_iconst (v := (nI 4)) dc_X7_trickAt_1 gc_4 ?_
  refine gh_iadd dc_X7_trickAt_2 ?_
  refine gh_iconst (v := (nI 5)) dc_X7_trickAt_3 gc_5 ?_
  refine gh_iload_n dc_X7_trickAt_4 rfl ?_
  refine gh_imul dc_X7_trickAt_5 ?_
  refine gh_iadd dc_X7_trickAt_6 ?_
  exact gh_iret dc_X7_trickAt_7 hE rfl hw
theorem wk_X7_readTrick   (Q : gh_M → Prop)  (M : gh_M) (hw : wp_X7_readTrick   M Q) : gh_Calls 4 mi_X7_readTrick [vR 32 0] M (gh_Qv Q) := by
  refine gh_of (by decide) rfl 2 rfl (L0 := [some (vR 32 0), none, none]) rfl (fun wd x hE => ?_)
  unfold wp_X7_readTrick at hw
  refine gh_aload_n dc_X7_readTrick_0 rfl ?_
  refine gh_getR (k := 32) (t := 0) dc_X7_readTrick_1 fl_RX7_7 (by decide) (by decide) rfl rfl ?_
  refine gh_sipush (v := (nI 1918)) dc_X7_readTrick_4 gs_1918 ?_
  obtain ⟨h1, hw⟩ := hw
  refine gh_iald (k := 33) (t := 0) dc_X7_readTrick_7 rfl (by decide) (by decide) h1 ?_
  obtain ⟨y1_2, ey1_2⟩ : ∃ z, z = (M 33 0 (nI 1918).toNatClampNeg) := ⟨_, rfl⟩
  rw [← ey1_2]
  replace hw := hw _ ey1_2
  refine gh_istore_n (L' := [some (vR 32 0), some (vI y1_2), none]) dc_X7_readTrick_8 (by decide) rfl rfl ?_
  refine gh_iload_n dc_X7_readTrick_9 rfl ?_
  refine gh_iconst (v := (nI 5)) dc_X7_readTrick_10 gc_5 ?_
  refine gh_icmp_ne (tgt := 24) dc_X7_readTrick_11 rfl (fun c3 => ?_) (fun c3 => ?_)
  · replace hw := hw.1 c3
    refine gh_sipush (v := (nI 1917)) dc_X7_readTrick_24 gs_1917 ?_
    refine gh_iload_n dc_X7_readTrick_27 rfl ?_
    refine gh_callSi (mi' := mi_X7_trickAt) (as := [vI (nI 1917), vI y1_2]) (S := []) dc_X7_readTrick_28 ml_RX7_98 ok_X7_trickAt rfl rfl (by decide) (Nat.le_of_ble_eq_true rfl) (wk_X7_trickAt _ _ _ _ hw) (fun r4 M5 hw => ?_)
    refine gh_istore_n (L' := [some (vR 32 0), some (vI y1_2), some (vI r4)]) dc_X7_readTrick_31 (by decide) rfl rfl ?_
    refine gh_aload_n dc_X7_readTrick_32 rfl ?_
    refine gh_getR (k := 32) (t := 0) dc_X7_readTrick_33 fl_RX7_7 (by decide) (by decide) rfl rfl ?_
    refine gh_iload_n dc_X7_readTrick_36 rfl ?_
    refine gh_aload_n dc_X7_readTrick_37 rfl ?_
    refine gh_callVi (mi' := mi_X7_here) (as := []) (S := [vI r4, vR 33 0]) (k := 32) (t := 0) dc_X7_readTrick_38 ml_RX7_94 ok_X7_here rfl rfl (by decide) (Nat.le_of_ble_eq_true rfl) (by decide) (by decide) rfl rfl (wk_X7_here _ _ hw) (fun r6 M7 hw => ?_)
    refine gh_callSi (mi' := mi_X7_kindOf) (as := [vI r6]) (S := [vI r4, vR 33 0]) dc_X7_readTrick_41 ml_RX7_102 ok_X7_kindOf rfl rfl (by decide) (Nat.le_of_ble_eq_true rfl) (wk_X7_kindOf _ _ _ hw) (fun r8 M9 hw => ?_)
    obtain ⟨h10, hw⟩ := hw
    refine gh_iast (k := 33) (t := 0) dc_X7_readTrick_44 rfl (by decide) (by decide) h10 ?_
    obtain ⟨M11, eM11⟩ : ∃ z, z = (gh_st M9 33 0 r4.toNatClampNeg r8) := ⟨_, rfl⟩
    rw [← eM11]
    replace hw := hw _ eM11
    refine gh_aload_n dc_X7_readTrick_45 rfl ?_
    refine gh_dupR dc_X7_readTrick_46 ?_
    refine gh_getI (k := 32) (t := 0) dc_X7_readTrick_47 fl_RX7_84 (by decide) (by decide) rfl rfl ?_
    refine gh_iconst (v := (nI 1)) dc_X7_readTrick_50 gc_1 ?_
    refine gh_iadd dc_X7_readTrick_51 ?_
    refine gh_put (k := 32) (t := 0) dc_X7_readTrick_52 fl_RX7_84 (by decide) (by decide) rfl rfl (fun _ h => by cases h; rfl) rfl rfl ?_
    obtain ⟨M12, eM12⟩ : ∃ z, z = (gh_st M11 32 0 16 ((M11 32 0 16) + (nI 1))) := ⟨_, rfl⟩
    rw [← eM12]
    replace hw := hw _ eM12
    refine gh_aload_n dc_X7_readTrick_55 rfl ?_
    refine gh_getR (k := 32) (t := 0) dc_X7_readTrick_56 fl_RX7_7 (by decide) (by decide) rfl rfl ?_
    refine gh_iload_n dc_X7_readTrick_59 rfl ?_
    refine gh_iconst (v := (nI 1)) dc_X7_readTrick_60 gc_1 ?_
    refine gh_iadd dc_X7_readTrick_61 ?_
    refine gh_aload_n dc_X7_readTrick_62 rfl ?_
    refine gh_iconst (v := (nI 0)) dc_X7_readTrick_63 gc_0 ?_
    refine gh_aload_n dc_X7_readTrick_64 rfl ?_
    refine gh_getR (k := 32) (t := 0) dc_X7_readTrick_65 fl_RX7_7 (by decide) (by decide) rfl rfl ?_
    refine gh_sipush (v := (nI 1917)) dc_X7_readTrick_68 gs_1917 ?_
    obtain ⟨h13, hw⟩ := hw
    refine gh_iald (k := 33) (t := 0) dc_X7_readTrick_71 rfl (by decide) (by decide) h13 ?_
    refine gh_iconst (v := (nI 1)) dc_X7_readTrick_72 gc_1 ?_
    refine gh_isub dc_X7_readTrick_73 ?_
    refine gh_callVi (mi' := mi_X7_number) (as := [vI (nI 0), vI ((M12 33 0 (nI 1917).toNatClampNeg) - (nI 1))]) (S := [vI (r4 + (nI 1)), vR 33 0]) (k := 32) (t := 0) dc_X7_readTrick_74 ml_RX7_105 ok_X7_number rfl rfl (by decide) (Nat.le_of_ble_eq_true rfl) (by decide) (by decide) rfl rfl (wk_X7_number _ _ _ _ hw) (fun r14 M15 hw => ?_)
    obtain ⟨h16, hw⟩ := hw
    refine gh_iast (k := 33) (t := 0) dc_X7_readTrick_77 rfl (by decide) (by decide) h16 ?_
    obtain ⟨M17, eM17⟩ : ∃ z, z = (gh_st M15 33 0 (r4 + (nI 1)).toNatClampNeg r14) := ⟨_, rfl⟩
    rw [← eM17]
    replace hw := hw _ eM17
    refine gh_aload_n dc_X7_readTrick_78 rfl ?_
    refine gh_bipush (v := (nI 44)) dc_X7_readTrick_79 gb_44 ?_
    refine gh_callVv (mi' := mi_X7_sign) (as := [vI (nI 44)]) (S := []) (k := 32) (t := 0) dc_X7_readTrick_81 ml_RX7_108 ok_X7_sign rfl rfl (by decide) (Nat.le_of_ble_eq_true rfl) (by decide) (by decide) rfl rfl (wk_X7_sign _ _ _ hw) (fun M19 hw => ?_)
    refine gh_aload_n dc_X7_readTrick_84 rfl ?_
    refine gh_getR (k := 32) (t := 0) dc_X7_readTrick_85 fl_RX7_7 (by decide) (by decide) rfl rfl ?_
    refine gh_iload_n dc_X7_readTrick_88 rfl ?_
    refine gh_iconst (v := (nI 2)) dc_X7_readTrick_89 gc_2 ?_
    refine gh_iadd dc_X7_readTrick_90 ?_
    refine gh_aload_n dc_X7_readTrick_91 rfl ?_
    refine gh_iconst (v := (nI 1)) dc_X7_readTrick_92 gc_1 ?_
    refine gh_bipush (v := (nI 9)) dc_X7_readTrick_93 gb_9 ?_
    refine gh_callVi (mi' := mi_X7_number) (as := [vI (nI 1), vI (nI 9)]) (S := [vI (r4 + (nI 2)), vR 33 0]) (k := 32) (t := 0) dc_X7_readTrick_95 ml_RX7_105 ok_X7_number rfl rfl (by decide) (Nat.le_of_ble_eq_true rfl) (by decide) (by decide) rfl rfl (wk_X7_number _ _ _ _ hw) (fun r20 M21 hw => ?_)
    obtain ⟨h22, hw⟩ := hw
    refine gh_iast (k := 33) (t := 0) dc_X7_readTrick_98 rfl (by decide) (by decide) h22 ?_
    obtain ⟨M23, eM23⟩ : ∃ z, z = (gh_st M21 33 0 (r4 + (nI 2)).toNatClampNeg r20) := ⟨_, rfl⟩
    rw [← eM23]
    replace hw := hw _ eM23
    refine gh_aload_n dc_X7_readTrick_99 rfl ?_
    refine gh_bipush (v := (nI 59)) dc_X7_readTrick_100 gb_59 ?_
    refine gh_callVv (mi' := mi_X7_sign) (as := [vI (nI 59)]) (S := []) (k := 32) (t := 0) dc_X7_readTrick_102 ml_RX7_108 ok_X7_sign rfl rfl (by decide) (Nat.le_of_ble_eq_true rfl) (by decide) (by decide) rfl rfl (wk_X7_sign _ _ _ hw) (fun M25 hw => ?_)
    refine gh_aload_n dc_X7_readTrick_105 rfl ?_
    refine gh_getR (k := 32) (t := 0) dc_X7_readTrick_106 fl_RX7_7 (by decide) (by decide) rfl rfl ?_
    refine gh_iload_n dc_X7_readTrick_109 rfl ?_
    refine gh_iconst (v := (nI 3)) dc_X7_readTrick_110 gc_3 ?_
    refine gh_iadd dc_X7_readTrick_111 ?_
    refine gh_iconst (v := (nI 1)) dc_X7_readTrick_112 gc_1 ?_
    obtain ⟨h26, hw⟩ := hw
    refine gh_iast (k := 33) (t := 0) dc_X7_readTrick_113 rfl (by decide) (by decide) h26 ?_
    obtain ⟨M27, eM27⟩ : ∃ z, z = (gh_st M25 33 0 (r4 + (nI 3)).toNatClampNeg (nI 1)) := ⟨_, rfl⟩
    rw [← eM27]
    replace hw := hw _ eM27
    refine gh_aload_n dc_X7_readTrick_114 rfl ?_
    refine gh_getR (k := 32) (t := 0) dc_X7_readTrick_115 fl_RX7_7 (by decide) (by decide) rfl rfl ?_
    refine gh_iload_n dc_X7_readTrick_118 rfl ?_
    refine gh_iconst (v := (nI 4)) dc_X7_readTrick_119 gc_4 ?_
    refine gh_iadd dc_X7_readTrick_120 ?_
    refine gh_iconst (v := (nI 0)) dc_X7_readTrick_121 gc_0 ?_
    obtain ⟨h28, hw⟩ := hw
    refine gh_iast (k := 33) (t := 0) dc_X7_readTrick_122 rfl (by decide) (by decide) h28 ?_
    obtain ⟨M29, eM29⟩ : ∃ z, z = (gh_st M27 33 0 (r4 + (nI 4)).toNatClampNeg (nI 0)) := ⟨_, rfl⟩
    rw [← eM29]
    replace hw := hw _ eM29
    refine gh_aload_n dc_X7_readTrick_123 rfl ?_
    refine gh_getR (k := 32) (t := 0) dc_X7_readTrick_124 fl_RX7_7 (by decide) (by decide) rfl rfl ?_
    refine gh_sipush (v := (nI 1918)) dc_X7_readTrick_127 gs_1918 ?_
    refine gh_dup2 dc_X7_readTrick_130 ?_
    obtain ⟨h30, hw⟩ := hw
    refine gh_iald (k := 33) (t := 0) dc_X7_readTrick_131 rfl (by decide) (by decide) h30 ?_
    refine gh_iconst (v := (nI 1)) dc_X7_readTrick_132 gc_1 ?_
    refine gh_iadd dc_X7_readTrick_133 ?_
    obtain ⟨h31, hw⟩ := hw
    refine gh_iast (k := 33) (t := 0) dc_X7_readTrick_134 rfl (by decide) (by decide) h31 ?_
    obtain ⟨M32, eM32⟩ : ∃ z, z = (gh_st M29 33 0 (nI 1918).toNatClampNeg ((M29 33 0 (nI 1918).toNatClampNeg) + (nI 1))) := ⟨_, rfl⟩
    rw [← eM32]
    replace hw := hw _ eM32
    exact gh_vret dc_X7_readTrick_135 hE rfl hw
  · replace hw := hw.2 c3
    refine gh_aload_n dc_X7_readTrick_14 rfl ?_
    refine gh_iconst (v := (nI 3)) dc_X7_readTrick_15 gc_3 ?_
    refine gh_aload_n dc_X7_readTrick_16 rfl ?_
    refine gh_getI (k := 32) (t := 0) dc_X7_readTrick_17 fl_RX7_84 (by decide) (by decide) rfl rfl ?_
    refine gh_callVv (mi' := mi_X7_fail) (as := [vI (nI 3), vI (M 32 0 16)]) (S := []) (k := 32) (t := 0) dc_X7_readTrick_20 ml_RX7_90 ok_X7_fail rfl rfl (by decide) (Nat.le_of_ble_eq_true rfl) (by decide) (by decide) rfl rfl (wk_X7_fail _ _ _ _ hw) (fun M34 hw => ?_)
    exact gh_vret dc_X7_readTrick_23 hE rfl hw
theorem lk_X7_readAll_32 {wd : gh_Wd} {x : gh_X} {Q : gh_M → Prop}   (hE : gh_E wd (gh_Qv Q) x)   : ∀ (n : Nat) (x1 : Int32) (M : gh_M), wl_X7_readAll_32 Q n x1 M → gh_J mi_X7_readAll 5 wd x M 32 [some (vR 32 0), some (vI x1)] [] := by
  intro n
  induction n with
  | zero => intro x1 M hw; exact hw.elim
  | succ n ih =>
    intro x1 M hw
    unfold wl_X7_readAll_32 at hw
    refine gh_iload_n dc_X7_readAll_32 rfl ?_
    refine gh_if_eq (tgt := 138) dc_X7_readAll_33 rfl (fun c11 => ?_) (fun c11 => ?_)
    · replace hw := hw.1 c11
      exact gh_vret dc_X7_readAll_138 hE rfl hw
    · replace hw := hw.2 c11
      refine gh_aload_n dc_X7_readAll_36 rfl ?_
      refine gh_callVi (mi' := mi_X7_here) (as := []) (S := []) (k := 32) (t := 0) dc_X7_readAll_37 ml_RX7_94 ok_X7_here rfl rfl (by decide) (Nat.le_of_ble_eq_true rfl) (by decide) (by decide) rfl rfl (wk_X7_here _ _ hw) (fun r12 M13 hw => ?_)
      refine gh_callSi (mi' := mi_X7_kindOf) (as := [vI r12]) (S := []) dc_X7_readAll_40 ml_RX7_102 ok_X7_kindOf rfl rfl (by decide) (Nat.le_of_ble_eq_true rfl) (wk_X7_kindOf _ _ _ hw) (fun r14 M15 hw => ?_)
      refine gh_if_le (tgt := 64) dc_X7_readAll_43 rfl (fun c16 => ?_) (fun c16 => ?_)
      · replace hw := hw.1 c16
        refine gh_aload_n dc_X7_readAll_64 rfl ?_
        refine gh_callVi (mi' := mi_X7_here) (as := []) (S := []) (k := 32) (t := 0) dc_X7_readAll_65 ml_RX7_94 ok_X7_here rfl rfl (by decide) (Nat.le_of_ble_eq_true rfl) (by decide) (by decide) rfl rfl (wk_X7_here _ _ hw) (fun r17 M18 hw => ?_)
        refine gh_bipush (v := (nI 99)) dc_X7_readAll_68 gb_99 ?_
        refine gh_icmp_ne (tgt := 91) dc_X7_readAll_70 rfl (fun c19 => ?_) (fun c19 => ?_)
        · replace hw := hw.1 c19
          refine gh_aload_n dc_X7_readAll_91 rfl ?_
          refine gh_iconst (v := (nI 1)) dc_X7_readAll_92 gc_1 ?_
          refine gh_aload_n dc_X7_readAll_93 rfl ?_
          refine gh_getI (k := 32) (t := 0) dc_X7_readAll_94 fl_RX7_84 (by decide) (by decide) rfl rfl ?_
          refine gh_callVv (mi' := mi_X7_fail) (as := [vI (nI 1), vI (M18 32 0 16)]) (S := []) (k := 32) (t := 0) dc_X7_readAll_97 ml_RX7_90 ok_X7_fail rfl rfl (by decide) (Nat.le_of_ble_eq_true rfl) (by decide) (by decide) rfl rfl (wk_X7_fail _ _ _ _ hw) (fun M21 hw => ?_)
          refine gh_aload_n dc_X7_readAll_100 rfl ?_
          refine gh_callVi (mi' := mi_X7_fine) (as := []) (S := []) (k := 32) (t := 0) dc_X7_readAll_101 ml_RX7_77 ok_X7_fine rfl rfl (by decide) (Nat.le_of_ble_eq_true rfl) (by decide) (by decide) rfl rfl (wk_X7_fine _ _ hw) (fun r22 M23 hw => ?_)
          refine gh_if_eq (tgt := 133) dc_X7_readAll_104 rfl (fun c24 => ?_) (fun c24 => ?_)
          · replace hw := hw.1 c24
            refine gh_iconst (v := (nI 0)) dc_X7_readAll_133 gc_0 ?_
            refine gh_istore_n (L' := [some (vR 32 0), some (vI (nI 0))]) dc_X7_readAll_134 (by decide) rfl rfl ?_
            refine gh_goto (tgt := 32) dc_X7_readAll_135 rfl ?_
            refine gh_drop (pc' := 0) [some (vR 32 0), some (vI (nI 0))] ⟨rfl, rfl, trivial⟩ ?_
            exact ih _ _ hw
          · replace hw := hw.2 c24
            refine gh_aload_n dc_X7_readAll_107 rfl ?_
            refine gh_getI (k := 32) (t := 0) dc_X7_readAll_108 fl_RX7_84 (by decide) (by decide) rfl rfl ?_
            refine gh_aload_n dc_X7_readAll_111 rfl ?_
            refine gh_getI (k := 32) (t := 0) dc_X7_readAll_112 fl_RX7_70 (by decide) (by decide) rfl rfl ?_
            refine gh_icmp_lt (tgt := 129) dc_X7_readAll_115 rfl (fun c25 => ?_) (fun c25 => ?_)
            · replace hw := hw.1 c25
              refine gh_iconst (v := (nI 1)) dc_X7_readAll_129 gc_1 ?_
              refine gh_goto (tgt := 134) dc_X7_readAll_130 rfl ?_
              refine gh_istore_n (L' := [some (vR 32 0), some (vI (nI 1))]) dc_X7_readAll_134 (by decide) rfl rfl ?_
              refine gh_goto (tgt := 32) dc_X7_readAll_135 rfl ?_
              refine gh_drop (pc' := 0) [some (vR 32 0), some (vI (nI 1))] ⟨rfl, rfl, trivial⟩ ?_
              exact ih _ _ hw
            · replace hw := hw.2 c25
              refine gh_aload_n dc_X7_readAll_118 rfl ?_
              refine gh_getR (k := 32) (t := 0) dc_X7_readAll_119 fl_RX7_7 (by decide) (by decide) rfl rfl ?_
              refine gh_sipush (v := (nI 1919)) dc_X7_readAll_122 gs_1919 ?_
              obtain ⟨h26, hw⟩ := hw
              refine gh_iald (k := 33) (t := 0) dc_X7_readAll_125 rfl (by decide) (by decide) h26 ?_
              refine gh_if_ne (tgt := 133) dc_X7_readAll_126 rfl (fun c27 => ?_) (fun c27 => ?_)
              · replace hw := hw.1 c27
                refine gh_iconst (v := (nI 0)) dc_X7_readAll_133 gc_0 ?_
                refine gh_istore_n (L' := [some (vR 32 0), some (vI (nI 0))]) dc_X7_readAll_134 (by decide) rfl rfl ?_
                refine gh_goto (tgt := 32) dc_X7_readAll_135 rfl ?_
                refine gh_drop (pc' := 0) [some (vR 32 0), some (vI (nI 0))] ⟨rfl, rfl, trivial⟩ ?_
                exact ih _ _ hw
              · replace hw := hw.2 c27
                refine gh_iconst (v := (nI 1)) dc_X7_readAll_129 gc_1 ?_
                refine gh_goto (tgt := 134) dc_X7_readAll_130 rfl ?_
                refine gh_istore_n (L' := [some (vR 32 0), some (vI (nI 1))]) dc_X7_readAll_134 (by decide) rfl rfl ?_
                refine gh_goto (tgt := 32) dc_X7_readAll_135 rfl ?_
                refine gh_drop (pc' := 0) [some (vR 32 0), some (vI (nI 1))] ⟨rfl, rfl, trivial⟩ ?_
                exact ih _ _ hw
        · replace hw := hw.2 c19
          refine gh_aload_n dc_X7_readAll_73 rfl ?_
          refine gh_getR (k := 32) (t := 0) dc_X7_readAll_74 fl_RX7_7 (by decide) (by decide) rfl rfl ?_
          refine gh_sipush (v := (nI 1918)) dc_X7_readAll_77 gs_1918 ?_
          obtain ⟨h28, hw⟩ := hw
          refine gh_iald (k := 33) (t := 0) dc_X7_readAll_80 rfl (by decide) (by decide) h28 ?_
          refine gh_if_le (tgt := 91) dc_X7_readAll_81 rfl (fun c29 => ?_) (fun c29 => ?_)
          · replace hw := hw.1 c29
            refine gh_aload_n dc_X7_readAll_91 rfl ?_
            refine gh_iconst (v := (nI 1)) dc_X7_readAll_92 gc_1 ?_
            refine gh_aload_n dc_X7_readAll_93 rfl ?_
            refine gh_getI (k := 32) (t := 0) dc_X7_readAll_94 fl_RX7_84 (by decide) (by decide) rfl rfl ?_
            refine gh_callVv (mi' := mi_X7_fail) (as := [vI (nI 1), vI (M18 32 0 16)]) (S := []) (k := 32) (t := 0) dc_X7_readAll_97 ml_RX7_90 ok_X7_fail rfl rfl (by decide) (Nat.le_of_ble_eq_true rfl) (by decide) (by decide) rfl rfl (wk_X7_fail _ _ _ _ hw) (fun M31 hw => ?_)
            refine gh_aload_n dc_X7_readAll_100 rfl ?_
            refine gh_callVi (mi' := mi_X7_fine) (as := []) (S := []) (k := 32) (t := 0) dc_X7_readAll_101 ml_RX7_77 ok_X7_fine rfl rfl (by decide) (Nat.le_of_ble_eq_true rfl) (by decide) (by decide) rfl rfl (wk_X7_fine _ _ hw) (fun r32 M33 hw => ?_)
            refine gh_if_eq (tgt := 133) dc_X7_readAll_104 rfl (fun c34 => ?_) (fun c34 => ?_)
            · replace hw := hw.1 c34
              refine gh_iconst (v := (nI 0)) dc_X7_readAll_133 gc_0 ?_
              refine gh_istore_n (L' := [some (vR 32 0), some (vI (nI 0))]) dc_X7_readAll_134 (by decide) rfl rfl ?_
              refine gh_goto (tgt := 32) dc_X7_readAll_135 rfl ?_
              refine gh_drop (pc' := 0) [some (vR 32 0), some (vI (nI 0))] ⟨rfl, rfl, trivial⟩ ?_
              exact ih _ _ hw
            · replace hw := hw.2 c34
              refine gh_aload_n dc_X7_readAll_107 rfl ?_
              refine gh_getI (k := 32) (t := 0) dc_X7_readAll_108 fl_RX7_84 (by decide) (by decide) rfl rfl ?_
              refine gh_aload_n dc_X7_readAll_111 rfl ?_
              refine gh_getI (k := 32) (t := 0) dc_X7_readAll_112 fl_RX7_70 (by decide) (by decide) rfl rfl ?_
              refine gh_icmp_lt (tgt := 129) dc_X7_readAll_115 rfl (fun c35 => ?_) (fun c35 => ?_)
              · replace hw := hw.1 c35
                refine gh_iconst (v := (nI 1)) dc_X7_readAll_129 gc_1 ?_
                refine gh_goto (tgt := 134) dc_X7_readAll_130 rfl ?_
                refine gh_istore_n (L' := [some (vR 32 0), some (vI (nI 1))]) dc_X7_readAll_134 (by decide) rfl rfl ?_
                refine gh_goto (tgt := 32) dc_X7_readAll_135 rfl ?_
                refine gh_drop (pc' := 0) [some (vR 32 0), some (vI (nI 1))] ⟨rfl, rfl, trivial⟩ ?_
                exact ih _ _ hw
              · replace hw := hw.2 c35
                refine gh_aload_n dc_X7_readAll_118 rfl ?_
                refine gh_getR (k := 32) (t := 0) dc_X7_readAll_119 fl_RX7_7 (by decide) (by decide) rfl rfl ?_
                refine gh_sipush (v := (nI 1919)) dc_X7_readAll_122 gs_1919 ?_
                obtain ⟨h36, hw⟩ := hw
                refine gh_iald (k := 33) (t := 0) dc_X7_readAll_125 rfl (by decide) (by decide) h36 ?_
                refine gh_if_ne (tgt := 133) dc_X7_readAll_126 rfl (fun c37 => ?_) (fun c37 => ?_)
                · replace hw := hw.1 c37
                  refine gh_iconst (v := (nI 0)) dc_X7_readAll_133 gc_0 ?_
                  refine gh_istore_n (L' := [some (vR 32 0), some (vI (nI 0))]) dc_X7_readAll_134 (by decide) rfl rfl ?_
                  refine gh_goto (tgt := 32) dc_X7_readAll_135 rfl ?_
                  refine gh_drop (pc' := 0) [some (vR 32 0), some (vI (nI 0))] ⟨rfl, rfl, trivial⟩ ?_
                  exact ih _ _ hw
                · replace hw := hw.2 c37
                  refine gh_iconst (v := (nI 1)) dc_X7_readAll_129 gc_1 ?_
                  refine gh_goto (tgt := 134) dc_X7_readAll_130 rfl ?_
                  refine gh_istore_n (L' := [some (vR 32 0), some (vI (nI 1))]) dc_X7_readAll_134 (by decide) rfl rfl ?_
                  refine gh_goto (tgt := 32) dc_X7_readAll_135 rfl ?_
                  refine gh_drop (pc' := 0) [some (vR 32 0), some (vI (nI 1))] ⟨rfl, rfl, trivial⟩ ?_
                  exact ih _ _ hw
          · replace hw := hw.2 c29
            refine gh_aload_n dc_X7_readAll_84 rfl ?_
            refine gh_callVv (mi' := mi_X7_readCar) (as := []) (S := []) (k := 32) (t := 0) dc_X7_readAll_85 ml_RX7_118 ok_X7_readCar rfl rfl (by decide) (Nat.le_of_ble_eq_true rfl) (by decide) (by decide) rfl rfl (wk_X7_readCar _ _ hw) (fun M39 hw => ?_)
            refine gh_goto (tgt := 100) dc_X7_readAll_88 rfl ?_
            refine gh_aload_n dc_X7_readAll_100 rfl ?_
            refine gh_callVi (mi' := mi_X7_fine) (as := []) (S := []) (k := 32) (t := 0) dc_X7_readAll_101 ml_RX7_77 ok_X7_fine rfl rfl (by decide) (Nat.le_of_ble_eq_true rfl) (by decide) (by decide) rfl rfl (wk_X7_fine _ _ hw) (fun r40 M41 hw => ?_)
            refine gh_if_eq (tgt := 133) dc_X7_readAll_104 rfl (fun c42 => ?_) (fun c42 => ?_)
            · replace hw := hw.1 c42
              refine gh_iconst (v := (nI 0)) dc_X7_readAll_133 gc_0 ?_
              refine gh_istore_n (L' := [some (vR 32 0), some (vI (nI 0))]) dc_X7_readAll_134 (by decide) rfl rfl ?_
              refine gh_goto (tgt := 32) dc_X7_readAll_135 rfl ?_
              refine gh_drop (pc' := 0) [some (vR 32 0), some (vI (nI 0))] ⟨rfl, rfl, trivial⟩ ?_
              exact ih _ _ hw
            · replace hw := hw.2 c42
              refine gh_aload_n dc_X7_readAll_107 rfl ?_
              refine gh_getI (k := 32) (t := 0) dc_X7_readAll_108 fl_RX7_84 (by decide) (by decide) rfl rfl ?_
              refine gh_aload_n dc_X7_readAll_111 rfl ?_
              refine gh_getI (k := 32) (t := 0) dc_X7_readAll_112 fl_RX7_70 (by decide) (by decide) rfl rfl ?_
              refine gh_icmp_lt (tgt := 129) dc_X7_readAll_115 rfl (fun c43 => ?_) (fun c43 => ?_)
              · replace hw := hw.1 c43
                refine gh_iconst (v := (nI 1)) dc_X7_readAll_129 gc_1 ?_
                refine gh_goto (tgt := 134) dc_X7_readAll_130 rfl ?_
                refine gh_istore_n (L' := [some (vR 32 0), some (vI (nI 1))]) dc_X7_readAll_134 (by decide) rfl rfl ?_
                refine gh_goto (tgt := 32) dc_X7_readAll_135 rfl ?_
                refine gh_drop (pc' := 0) [some (vR 32 0), some (vI (nI 1))] ⟨rfl, rfl, trivial⟩ ?_
                exact ih _ _ hw
              · replace hw := hw.2 c43
                refine gh_aload_n dc_X7_readAll_118 rfl ?_
                refine gh_getR (k := 32) (t := 0) dc_X7_readAll_119 fl_RX7_7 (by decide) (by decide) rfl rfl ?_
                refine gh_sipush (v := (nI 1919)) dc_X7_readAll_122 gs_1919 ?_
                obtain ⟨h44, hw⟩ := hw
                refine gh_iald (k := 33) (t := 0) dc_X7_readAll_125 rfl (by decide) (by decide) h44 ?_
                refine gh_if_ne (tgt := 133) dc_X7_readAll_126 rfl (fun c45 => ?_) (fun c45 => ?_)
                · replace hw := hw.1 c45
                  refine gh_iconst (v := (nI 0)) dc_X7_readAll_133 gc_0 ?_
                  refine gh_istore_n (L' := [some (vR 32 0), some (vI (nI 0))]) dc_X7_readAll_134 (by decide) rfl rfl ?_
                  refine gh_goto (tgt := 32) dc_X7_readAll_135 rfl ?_
                  refine gh_drop (pc' := 0) [some (vR 32 0), some (vI (nI 0))] ⟨rfl, rfl, trivial⟩ ?_
                  exact ih _ _ hw
                · replace hw := hw.2 c45
                  refine gh_iconst (v := (nI 1)) dc_X7_readAll_129 gc_1 ?_
                  refine gh_goto (tgt := 134) dc_X7_readAll_130 rfl ?_
                  refine gh_istore_n (L' := [some (vR 32 0), some (vI (nI 1))]) dc_X7_readAll_134 (by decide) rfl rfl ?_
                  refine gh_goto (tgt := 32) dc_X7_readAll_135 rfl ?_
                  refine gh_drop (pc' := 0) [some (vR 32 0), some (vI (nI 1))] ⟨rfl, rfl, trivial⟩ ?_
                  exact ih _ _ hw
      · replace hw := hw.2 c16
        refine gh_aload_n dc_X7_readAll_46 rfl ?_
        refine gh_getR (k := 32) (t := 0) dc_X7_readAll_47 fl_RX7_7 (by decide) (by decide) rfl rfl ?_
        refine gh_sipush (v := (nI 1919)) dc_X7_readAll_50 gs_1919 ?_
        obtain ⟨h46, hw⟩ := hw
        refine gh_iald (k := 33) (t := 0) dc_X7_readAll_53 rfl (by decide) (by decide) h46 ?_
        refine gh_if_ne (tgt := 64) dc_X7_readAll_54 rfl (fun c47 => ?_) (fun c47 => ?_)
        · replace hw := hw.1 c47
          refine gh_aload_n dc_X7_readAll_64 rfl ?_
          refine gh_callVi (mi' := mi_X7_here) (as := []) (S := []) (k := 32) (t := 0) dc_X7_readAll_65 ml_RX7_94 ok_X7_here rfl rfl (by decide) (Nat.le_of_ble_eq_true rfl) (by decide) (by decide) rfl rfl (wk_X7_here _ _ hw) (fun r48 M49 hw => ?_)
          refine gh_bipush (v := (nI 99)) dc_X7_readAll_68 gb_99 ?_
          refine gh_icmp_ne (tgt := 91) dc_X7_readAll_70 rfl (fun c50 => ?_) (fun c50 => ?_)
          · replace hw := hw.1 c50
            refine gh_aload_n dc_X7_readAll_91 rfl ?_
            refine gh_iconst (v := (nI 1)) dc_X7_readAll_92 gc_1 ?_
            refine gh_aload_n dc_X7_readAll_93 rfl ?_
            refine gh_getI (k := 32) (t := 0) dc_X7_readAll_94 fl_RX7_84 (by decide) (by decide) rfl rfl ?_
            refine gh_callVv (mi' := mi_X7_fail) (as := [vI (nI 1), vI (M49 32 0 16)]) (S := []) (k := 32) (t := 0) dc_X7_readAll_97 ml_RX7_90 ok_X7_fail rfl rfl (by decide) (Nat.le_of_ble_eq_true rfl) (by decide) (by decide) rfl rfl (wk_X7_fail _ _ _ _ hw) (fun M52 hw => ?_)
            refine gh_aload_n dc_X7_readAll_100 rfl ?_
            refine gh_callVi (mi' := mi_X7_fine) (as := []) (S := []) (k := 32) (t := 0) dc_X7_readAll_101 ml_RX7_77 ok_X7_fine rfl rfl (by decide) (Nat.le_of_ble_eq_true rfl) (by decide) (by decide) rfl rfl (wk_X7_fine _ _ hw) (fun r53 M54 hw => ?_)
            refine gh_if_eq (tgt := 133) dc_X7_readAll_104 rfl (fun c55 => ?_) (fun c55 => ?_)
            · replace hw := hw.1 c55
              refine gh_iconst (v := (nI 0)) dc_X7_readAll_133 gc_0 ?_
              refine gh_istore_n (L' := [some (vR 32 0), some (vI (nI 0))]) dc_X7_readAll_134 (by decide) rfl rfl ?_
              refine gh_goto (tgt := 32) dc_X7_readAll_135 rfl ?_
              refine gh_drop (pc' := 0) [some (vR 32 0), some (vI (nI 0))] ⟨rfl, rfl, trivial⟩ ?_
              exact ih _ _ hw
            · replace hw := hw.2 c55
              refine gh_aload_n dc_X7_readAll_107 rfl ?_
              refine gh_getI (k := 32) (t := 0) dc_X7_readAll_108 fl_RX7_84 (by decide) (by decide) rfl rfl ?_
              refine gh_aload_n dc_X7_readAll_111 rfl ?_
              refine gh_getI (k := 32) (t := 0) dc_X7_readAll_112 fl_RX7_70 (by decide) (by decide) rfl rfl ?_
              refine gh_icmp_lt (tgt := 129) dc_X7_readAll_115 rfl (fun c56 => ?_) (fun c56 => ?_)
              · replace hw := hw.1 c56
                refine gh_iconst (v := (nI 1)) dc_X7_readAll_129 gc_1 ?_
                refine gh_goto (tgt := 134) dc_X7_readAll_130 rfl ?_
                refine gh_istore_n (L' := [some (vR 32 0), some (vI (nI 1))]) dc_X7_readAll_134 (by decide) rfl rfl ?_
                refine gh_goto (tgt := 32) dc_X7_readAll_135 rfl ?_
                refine gh_drop (pc' := 0) [some (vR 32 0), some (vI (nI 1))] ⟨rfl, rfl, trivial⟩ ?_
                exact ih _ _ hw
              · replace hw := hw.2 c56
                refine gh_aload_n dc_X7_readAll_118 rfl ?_
                refine gh_getR (k := 32) (t := 0) dc_X7_readAll_119 fl_RX7_7 (by decide) (by decide) rfl rfl ?_
                refine gh_sipush (v := (nI 1919)) dc_X7_readAll_122 gs_1919 ?_
                obtain ⟨h57, hw⟩ := hw
                refine gh_iald (k := 33) (t := 0) dc_X7_readAll_125 rfl (by decide) (by decide) h57 ?_
                refine gh_if_ne (tgt := 133) dc_X7_readAll_126 rfl (fun c58 => ?_) (fun c58 => ?_)
                · replace hw := hw.1 c58
                  refine gh_iconst (v := (nI 0)) dc_X7_readAll_133 gc_0 ?_
                  refine gh_istore_n (L' := [some (vR 32 0), some (vI (nI 0))]) dc_X7_readAll_134 (by decide) rfl rfl ?_
                  refine gh_goto (tgt := 32) dc_X7_readAll_135 rfl ?_
                  refine gh_drop (pc' := 0) [some (vR 32 0), some (vI (nI 0))] ⟨rfl, rfl, trivial⟩ ?_
                  exact ih _ _ hw
                · replace hw := hw.2 c58
                  refine gh_iconst (v := (nI 1)) dc_X7_readAll_129 gc_1 ?_
                  refine gh_goto (tgt := 134) dc_X7_readAll_130 rfl ?_
                  refine gh_istore_n (L' := [some (vR 32 0), some (vI (nI 1))]) dc_X7_readAll_134 (by decide) rfl rfl ?_
                  refine gh_goto (tgt := 32) dc_X7_readAll_135 rfl ?_
                  refine gh_drop (pc' := 0) [some (vR 32 0), some (vI (nI 1))] ⟨rfl, rfl, trivial⟩ ?_
                  exact ih _ _ hw
          · replace hw := hw.2 c50
            refine gh_aload_n dc_X7_readAll_73 rfl ?_
            refine gh_getR (k := 32) (t := 0) dc_X7_readAll_74 fl_RX7_7 (by decide) (by decide) rfl rfl ?_
            refine gh_sipush (v := (nI 1918)) dc_X7_readAll_77 gs_1918 ?_
            obtain ⟨h59, hw⟩ := hw
            refine gh_iald (k := 33) (t := 0) dc_X7_readAll_80 rfl (by decide) (by decide) h59 ?_
            refine gh_if_le (tgt := 91) dc_X7_readAll_81 rfl (fun c60 => ?_) (fun c60 => ?_)
            · replace hw := hw.1 c60
              refine gh_aload_n dc_X7_readAll_91 rfl ?_
              refine gh_iconst (v := (nI 1)) dc_X7_readAll_92 gc_1 ?_
              refine gh_aload_n dc_X7_readAll_93 rfl ?_
              refine gh_getI (k := 32) (t := 0) dc_X7_readAll_94 fl_RX7_84 (by decide) (by decide) rfl rfl ?_
              refine gh_callVv (mi' := mi_X7_fail) (as := [vI (nI 1), vI (M49 32 0 16)]) (S := []) (k := 32) (t := 0) dc_X7_readAll_97 ml_RX7_90 ok_X7_fail rfl rfl (by decide) (Nat.le_of_ble_eq_true rfl) (by decide) (by decide) rfl rfl (wk_X7_fail _ _ _ _ hw) (fun M62 hw => ?_)
              refine gh_aload_n dc_X7_readAll_100 rfl ?_
              refine gh_callVi (mi' := mi_X7_fine) (as := []) (S := []) (k := 32) (t := 0) dc_X7_readAll_101 ml_RX7_77 ok_X7_fine rfl rfl (by decide) (Nat.le_of_ble_eq_true rfl) (by decide) (by decide) rfl rfl (wk_X7_fine _ _ hw) (fun r63 M64 hw => ?_)
              refine gh_if_eq (tgt := 133) dc_X7_readAll_104 rfl (fun c65 => ?_) (fun c65 => ?_)
              · replace hw := hw.1 c65
                refine gh_iconst (v := (nI 0)) dc_X7_readAll_133 gc_0 ?_
                refine gh_istore_n (L' := [some (vR 32 0), some (vI (nI 0))]) dc_X7_readAll_134 (by decide) rfl rfl ?_
                refine gh_goto (tgt := 32) dc_X7_readAll_135 rfl ?_
                refine gh_drop (pc' := 0) [some (vR 32 0), some (vI (nI 0))] ⟨rfl, rfl, trivial⟩ ?_
                exact ih _ _ hw
              · replace hw := hw.2 c65
                refine gh_aload_n dc_X7_readAll_107 rfl ?_
                refine gh_getI (k := 32) (t := 0) dc_X7_readAll_108 fl_RX7_84 (by decide) (by decide) rfl rfl ?_
                refine gh_aload_n dc_X7_readAll_111 rfl ?_
                refine gh_getI (k := 32) (t := 0) dc_X7_readAll_112 fl_RX7_70 (by decide) (by decide) rfl rfl ?_
                refine gh_icmp_lt (tgt := 129) dc_X7_readAll_115 rfl (fun c66 => ?_) (fun c66 => ?_)
                · replace hw := hw.1 c66
                  refine gh_iconst (v := (nI 1)) dc_X7_readAll_129 gc_1 ?_
                  refine gh_goto (tgt := 134) dc_X7_readAll_130 rfl ?_
                  refine gh_istore_n (L' := [some (vR 32 0), some (vI (nI 1))]) dc_X7_readAll_134 (by decide) rfl rfl ?_
                  refine gh_goto (tgt := 32) dc_X7_readAll_135 rfl ?_
                  refine gh_drop (pc' := 0) [some (vR 32 0), some (vI (nI 1))] ⟨rfl, rfl, trivial⟩ ?_
                  exact ih _ _ hw
                · replace hw := hw.2 c66
                  refine gh_aload_n dc_X7_readAll_118 rfl ?_
                  refine gh_getR (k := 32) (t := 0) dc_X7_readAll_119 fl_RX7_7 (by decide) (by decide) rfl rfl ?_
                  refine gh_sipush (v := (nI 1919)) dc_X7_readAll_122 gs_1919 ?_
                  obtain ⟨h67, hw⟩ := hw
                  refine gh_iald (k := 33) (t := 0) dc_X7_readAll_125 rfl (by decide) (by decide) h67 ?_
                  refine gh_if_ne (tgt := 133) dc_X7_readAll_126 rfl (fun c68 => ?_) (fun c68 => ?_)
                  · replace hw := hw.1 c68
                    refine gh_iconst (v := (nI 0)) dc_X7_readAll_133 gc_0 ?_
                    refine gh_istore_n (L' := [some (vR 32 0), some (vI (nI 0))]) dc_X7_readAll_134 (by decide) rfl rfl ?_
                    refine gh_goto (tgt := 32) dc_X7_readAll_135 rfl ?_
                    refine gh_drop (pc' := 0) [some (vR 32 0), some (vI (nI 0))] ⟨rfl, rfl, trivial⟩ ?_
                    exact ih _ _ hw
                  · replace hw := hw.2 c68
                    refine gh_iconst (v := (nI 1)) dc_X7_readAll_129 gc_1 ?_
                    refine gh_goto (tgt := 134) dc_X7_readAll_130 rfl ?_
                    refine gh_istore_n (L' := [some (vR 32 0), some (vI (nI 1))]) dc_X7_readAll_134 (by decide) rfl rfl ?_
                    refine gh_goto (tgt := 32) dc_X7_readAll_135 rfl ?_
                    refine gh_drop (pc' := 0) [some (vR 32 0), some (vI (nI 1))] ⟨rfl, rfl, trivial⟩ ?_
                    exact ih _ _ hw
            · replace hw := hw.2 c60
              refine gh_aload_n dc_X7_readAll_84 rfl ?_
              refine gh_callVv (mi' := mi_X7_readCar) (as := []) (S := []) (k := 32) (t := 0) dc_X7_readAll_85 ml_RX7_118 ok_X7_readCar rfl rfl (by decide) (Nat.le_of_ble_eq_true rfl) (by decide) (by decide) rfl rfl (wk_X7_readCar _ _ hw) (fun M70 hw => ?_)
              refine gh_goto (tgt := 100) dc_X7_readAll_88 rfl ?_
              refine gh_aload_n dc_X7_readAll_100 rfl ?_
              refine gh_callVi (mi' := mi_X7_fine) (as := []) (S := []) (k := 32) (t := 0) dc_X7_readAll_101 ml_RX7_77 ok_X7_fine rfl rfl (by decide) (Nat.le_of_ble_eq_true rfl) (by decide) (by decide) rfl rfl (wk_X7_fine _ _ hw) (fun r71 M72 hw => ?_)
              refine gh_if_eq (tgt := 133) dc_X7_readAll_104 rfl (fun c73 => ?_) (fun c73 => ?_)
              · replace hw := hw.1 c73
                refine gh_iconst (v := (nI 0)) dc_X7_readAll_133 gc_0 ?_
                refine gh_istore_n (L' := [some (vR 32 0), some (vI (nI 0))]) dc_X7_readAll_134 (by decide) rfl rfl ?_
                refine gh_goto (tgt := 32) dc_X7_readAll_135 rfl ?_
                refine gh_drop (pc' := 0) [some (vR 32 0), some (vI (nI 0))] ⟨rfl, rfl, trivial⟩ ?_
                exact ih _ _ hw
              · replace hw := hw.2 c73
                refine gh_aload_n dc_X7_readAll_107 rfl ?_
                refine gh_getI (k := 32) (t := 0) dc_X7_readAll_108 fl_RX7_84 (by decide) (by decide) rfl rfl ?_
                refine gh_aload_n dc_X7_readAll_111 rfl ?_
                refine gh_getI (k := 32) (t := 0) dc_X7_readAll_112 fl_RX7_70 (by decide) (by decide) rfl rfl ?_
                refine gh_icmp_lt (tgt := 129) dc_X7_readAll_115 rfl (fun c74 => ?_) (fun c74 => ?_)
                · replace hw := hw.1 c74
                  refine gh_iconst (v := (nI 1)) dc_X7_readAll_129 gc_1 ?_
                  refine gh_goto (tgt := 134) dc_X7_readAll_130 rfl ?_
                  refine gh_istore_n (L' := [some (vR 32 0), some (vI (nI 1))]) dc_X7_readAll_134 (by decide) rfl rfl ?_
                  refine gh_goto (tgt := 32) dc_X7_readAll_135 rfl ?_
                  refine gh_drop (pc' := 0) [some (vR 32 0), some (vI (nI 1))] ⟨rfl, rfl, trivial⟩ ?_
                  exact ih _ _ hw
                · replace hw := hw.2 c74
                  refine gh_aload_n dc_X7_readAll_118 rfl ?_
                  refine gh_getR (k := 32) (t := 0) dc_X7_readAll_119 fl_RX7_7 (by decide) (by decide) rfl rfl ?_
                  refine gh_sipush (v := (nI 1919)) dc_X7_readAll_122 gs_1919 ?_
                  obtain ⟨h75, hw⟩ := hw
                  refine gh_iald (k := 33) (t := 0) dc_X7_readAll_125 rfl (by decide) (by decide) h75 ?_
                  refine gh_if_ne (tgt := 133) dc_X7_readAll_126 rfl (fun c76 => ?_) (fun c76 => ?_)
                  · replace hw := hw.1 c76
                    refine gh_iconst (v := (nI 0)) dc_X7_readAll_133 gc_0 ?_
                    refine gh_istore_n (L' := [some (vR 32 0), some (vI (nI 0))]) dc_X7_readAll_134 (by decide) rfl rfl ?_
                    refine gh_goto (tgt := 32) dc_X7_readAll_135 rfl ?_
                    refine gh_drop (pc' := 0) [some (vR 32 0), some (vI (nI 0))] ⟨rfl, rfl, trivial⟩ ?_
                    exact ih _ _ hw
                  · replace hw := hw.2 c76
                    refine gh_iconst (v := (nI 1)) dc_X7_readAll_129 gc_1 ?_
                    refine gh_goto (tgt := 134) dc_X7_readAll_130 rfl ?_
                    refine gh_istore_n (L' := [some (vR 32 0), some (vI (nI 1))]) dc_X7_readAll_134 (by decide) rfl rfl ?_
                    refine gh_goto (tgt := 32) dc_X7_readAll_135 rfl ?_
                    refine gh_drop (pc' := 0) [some (vR 32 0), some (vI (nI 1))] ⟨rfl, rfl, trivial⟩ ?_
                    exact ih _ _ hw
        · replace hw := hw.2 c47
          refine gh_aload_n dc_X7_readAll_57 rfl ?_
          refine gh_callVv (mi' := mi_X7_readTrick) (as := []) (S := []) (k := 32) (t := 0) dc_X7_readAll_58 ml_RX7_115 ok_X7_readTrick rfl rfl (by decide) (Nat.le_of_ble_eq_true rfl) (by decide) (by decide) rfl rfl (wk_X7_readTrick _ _ hw) (fun M78 hw => ?_)
          refine gh_goto (tgt := 100) dc_X7_readAll_61 rfl ?_
          refine gh_aload_n dc_X7_readAll_100 rfl ?_
          refine gh_callVi (mi' := mi_X7_fine) (as := []) (S := []) (k := 32) (t := 0) dc_X7_readAll_101 ml_RX7_77 ok_X7_fine rfl rfl (by decide) (Nat.le_of_ble_eq_true rfl) (by decide) (by decide) rfl rfl (wk_X7_fine _ _ hw) (fun r79 M80 hw => ?_)
          refine gh_if_eq (tgt := 133) dc_X7_readAll_104 rfl (fun c81 => ?_) (fun c81 => ?_)
          · replace hw := hw.1 c81
            refine gh_iconst (v := (nI 0)) dc_X7_readAll_133 gc_0 ?_
            refine gh_istore_n (L' := [some (vR 32 0), some (vI (nI 0))]) dc_X7_readAll_134 (by decide) rfl rfl ?_
            refine gh_goto (tgt := 32) dc_X7_readAll_135 rfl ?_
            refine gh_drop (pc' := 0) [some (vR 32 0), some (vI (nI 0))] ⟨rfl, rfl, trivial⟩ ?_
            exact ih _ _ hw
          · replace hw := hw.2 c81
            refine gh_aload_n dc_X7_readAll_107 rfl ?_
            refine gh_getI (k := 32) (t := 0) dc_X7_readAll_108 fl_RX7_84 (by decide) (by decide) rfl rfl ?_
            refine gh_aload_n dc_X7_readAll_111 rfl ?_
            refine gh_getI (k := 32) (t := 0) dc_X7_readAll_112 fl_RX7_70 (by decide) (by decide) rfl rfl ?_
            refine gh_icmp_lt (tgt := 129) dc_X7_readAll_115 rfl (fun c82 => ?_) (fun c82 => ?_)
            · replace hw := hw.1 c82
              refine gh_iconst (v := (nI 1)) dc_X7_readAll_129 gc_1 ?_
              refine gh_goto (tgt := 134) dc_X7_readAll_130 rfl ?_
              refine gh_istore_n (L' := [some (vR 32 0), some (vI (nI 1))]) dc_X7_readAll_134 (by decide) rfl rfl ?_
              refine gh_goto (tgt := 32) dc_X7_readAll_135 rfl ?_
              refine gh_drop (pc' := 0) [some (vR 32 0), some (vI (nI 1))] ⟨rfl, rfl, trivial⟩ ?_
              exact ih _ _ hw
            · replace hw := hw.2 c82
              refine gh_aload_n dc_X7_readAll_118 rfl ?_
              refine gh_getR (k := 32) (t := 0) dc_X7_readAll_119 fl_RX7_7 (by decide) (by decide) rfl rfl ?_
              refine gh_sipush (v := (nI 1919)) dc_X7_readAll_122 gs_1919 ?_
              obtain ⟨h83, hw⟩ := hw
              refine gh_iald (k := 33) (t := 0) dc_X7_readAll_125 rfl (by decide) (by decide) h83 ?_
              refine gh_if_ne (tgt := 133) dc_X7_readAll_126 rfl (fun c84 => ?_) (fun c84 => ?_)
              · replace hw := hw.1 c84
                refine gh_iconst (v := (nI 0)) dc_X7_readAll_133 gc_0 ?_
                refine gh_istore_n (L' := [some (vR 32 0), some (vI (nI 0))]) dc_X7_readAll_134 (by decide) rfl rfl ?_
                refine gh_goto (tgt := 32) dc_X7_readAll_135 rfl ?_
                refine gh_drop (pc' := 0) [some (vR 32 0), some (vI (nI 0))] ⟨rfl, rfl, trivial⟩ ?_
                exact ih _ _ hw
              · replace hw := hw.2 c84
                refine gh_iconst (v := (nI 1)) dc_X7_readAll_129 gc_1 ?_
                refine gh_goto (tgt := 134) dc_X7_readAll_130 rfl ?_
                refine gh_istore_n (L' := [some (vR 32 0), some (vI (nI 1))]) dc_X7_readAll_134 (by decide) rfl rfl ?_
                refine gh_goto (tgt := 32) dc_X7_readAll_135 rfl ?_
                refine gh_drop (pc' := 0) [some (vR 32 0), some (vI (nI 1))] ⟨rfl, rfl, trivial⟩ ?_
                exact ih _ _ hw
theorem wk_X7_readAll   (Q : gh_M → Prop)  (M : gh_M) (hw : wp_X7_readAll   M Q) : gh_Calls 5 mi_X7_readAll [vR 32 0] M (gh_Qv Q) := by
  refine gh_of (by decide) rfl 1 rfl (L0 := [some (vR 32 0), none]) rfl (fun wd x hE => ?_)
  unfold wp_X7_readAll at hw
  refine gh_aload_n dc_X7_readAll_0 rfl ?_
  refine gh_bipush (v := (nI 103)) dc_X7_readAll_1 gb_103 ?_
  refine gh_callVv (mi' := mi_X7_sign) (as := [vI (nI 103)]) (S := []) (k := 32) (t := 0) dc_X7_readAll_3 ml_RX7_108 ok_X7_sign rfl rfl (by decide) (Nat.le_of_ble_eq_true rfl) (by decide) (by decide) rfl rfl (wk_X7_sign _ _ _ hw) (fun M2 hw => ?_)
  refine gh_aload_n dc_X7_readAll_6 rfl ?_
  refine gh_getR (k := 32) (t := 0) dc_X7_readAll_7 fl_RX7_7 (by decide) (by decide) rfl rfl ?_
  refine gh_sipush (v := (nI 1917)) dc_X7_readAll_10 gs_1917 ?_
  refine gh_aload_n dc_X7_readAll_13 rfl ?_
  refine gh_iconst (v := (nI 4)) dc_X7_readAll_14 gc_4 ?_
  refine gh_bipush (v := (nI 12)) dc_X7_readAll_15 gb_12 ?_
  refine gh_callVi (mi' := mi_X7_number) (as := [vI (nI 4), vI (nI 12)]) (S := [vI (nI 1917), vR 33 0]) (k := 32) (t := 0) dc_X7_readAll_17 ml_RX7_105 ok_X7_number rfl rfl (by decide) (Nat.le_of_ble_eq_true rfl) (by decide) (by decide) rfl rfl (wk_X7_number _ _ _ _ hw) (fun r3 M4 hw => ?_)
  obtain ⟨h5, hw⟩ := hw
  refine gh_iast (k := 33) (t := 0) dc_X7_readAll_20 rfl (by decide) (by decide) h5 ?_
  obtain ⟨M6, eM6⟩ : ∃ z, z = (gh_st M4 33 0 (nI 1917).toNatClampNeg r3) := ⟨_, rfl⟩
  rw [← eM6]
  replace hw := hw _ eM6
  refine gh_aload_n dc_X7_readAll_21 rfl ?_
  refine gh_bipush (v := (nI 59)) dc_X7_readAll_22 gb_59 ?_
  refine gh_callVv (mi' := mi_X7_sign) (as := [vI (nI 59)]) (S := []) (k := 32) (t := 0) dc_X7_readAll_24 ml_RX7_108 ok_X7_sign rfl rfl (by decide) (Nat.le_of_ble_eq_true rfl) (by decide) (by decide) rfl rfl (wk_X7_sign _ _ _ hw) (fun M8 hw => ?_)
  refine gh_aload_n dc_X7_readAll_27 rfl ?_
  refine gh_callVi (mi' := mi_X7_fine) (as := []) (S := []) (k := 32) (t := 0) dc_X7_readAll_28 ml_RX7_77 ok_X7_fine rfl rfl (by decide) (Nat.le_of_ble_eq_true rfl) (by decide) (by decide) rfl rfl (wk_X7_fine _ _ hw) (fun r9 M10 hw => ?_)
  refine gh_istore_n (L' := [some (vR 32 0), some (vI r9)]) dc_X7_readAll_31 (by decide) rfl rfl ?_
  refine gh_drop (pc' := 0) [some (vR 32 0), some (vI r9)] ⟨rfl, rfl, trivial⟩ ?_
  obtain ⟨k, hw⟩ := hw
  exact lk_X7_readAll_32  hE  k _ _ hw
theorem lk_X7_copyRow_2 {wd : gh_Wd} {x : gh_X} {Q : gh_M → Prop}   (hE : gh_E wd (gh_Qv Q) x)   : ∀ (n : Nat) (x1 : Int32) (x2 : Int32) (x3 : Int32) (M : gh_M), wl_X7_copyRow_2 Q n x1 x2 x3 M → gh_J mi_X7_copyRow 1 wd x M 2 [some (vR 32 0), some (vI x1), some (vI x2), some (vI x3)] [] := by
  intro n
  induction n with
  | zero => intro x1 x2 x3 M hw; exact hw.elim
  | succ n ih =>
    intro x1 x2 x3 M hw
    unfold wl_X7_copyRow_2 at hw
    refine gh_iload_n dc_X7_copyRow_2 rfl ?_
    refine gh_bipush (v := (nI 71)) dc_X7_copyRow_3 gb_71 ?_
    refine gh_icmp_ge (tgt := 30) dc_X7_copyRow_5 rfl (fun c1 => ?_) (fun c1 => ?_)
    · replace hw := hw.1 c1
      exact gh_vret dc_X7_copyRow_30 hE rfl hw
    · replace hw := hw.2 c1
      refine gh_aload_n dc_X7_copyRow_8 rfl ?_
      refine gh_getR (k := 32) (t := 0) dc_X7_copyRow_9 fl_RX7_7 (by decide) (by decide) rfl rfl ?_
      refine gh_iload_n dc_X7_copyRow_12 rfl ?_
      refine gh_iload_n dc_X7_copyRow_13 rfl ?_
      refine gh_iadd dc_X7_copyRow_14 ?_
      refine gh_aload_n dc_X7_copyRow_15 rfl ?_
      refine gh_getR (k := 32) (t := 0) dc_X7_copyRow_16 fl_RX7_7 (by decide) (by decide) rfl rfl ?_
      refine gh_iload_n dc_X7_copyRow_19 rfl ?_
      refine gh_iload_n dc_X7_copyRow_20 rfl ?_
      refine gh_iadd dc_X7_copyRow_21 ?_
      obtain ⟨h2, hw⟩ := hw
      refine gh_iald (k := 33) (t := 0) dc_X7_copyRow_22 rfl (by decide) (by decide) h2 ?_
      obtain ⟨h3, hw⟩ := hw
      refine gh_iast (k := 33) (t := 0) dc_X7_copyRow_23 rfl (by decide) (by decide) h3 ?_
      obtain ⟨M4, eM4⟩ : ∃ z, z = (gh_st M 33 0 (x2 + x3).toNatClampNeg (M 33 0 (x1 + x3).toNatClampNeg)) := ⟨_, rfl⟩
      rw [← eM4]
      replace hw := hw _ eM4
      obtain ⟨y3_5, ey3_5⟩ : ∃ z, z = (x3 + (nI 1)) := ⟨_, rfl⟩
      replace hw := hw _ ey3_5
      refine gh_iinc (v := y3_5) (L' := [some (vR 32 0), some (vI x1), some (vI x2), some (vI y3_5)]) dc_X7_copyRow_24 rfl ((congrArg (fun z => x3 + z) gc_1).trans ey3_5.symm) (by decide) rfl rfl ?_
      refine gh_goto (tgt := 2) dc_X7_copyRow_27 rfl ?_
      refine gh_drop (pc' := 0) [some (vR 32 0), some (vI x1), some (vI x2), some (vI y3_5)] ⟨rfl, rfl, rfl, rfl, trivial⟩ ?_
      exact ih _ _ _ _ hw
theorem wk_X7_copyRow   (Q : gh_M → Prop) (a0 : Int32) (a1 : Int32) (M : gh_M) (hw : wp_X7_copyRow  a0 a1 M Q) : gh_Calls 1 mi_X7_copyRow [vR 32 0, vI a0, vI a1] M (gh_Qv Q) := by
  refine gh_of (by decide) rfl 1 rfl (L0 := [some (vR 32 0), some (vI a0), some (vI a1), none]) rfl (fun wd x hE => ?_)
  unfold wp_X7_copyRow at hw
  refine gh_iconst (v := (nI 0)) dc_X7_copyRow_0 gc_0 ?_
  refine gh_istore_n (L' := [some (vR 32 0), some (vI a0), some (vI a1), some (vI (nI 0))]) dc_X7_copyRow_1 (by decide) rfl rfl ?_
  refine gh_drop (pc' := 0) [some (vR 32 0), some (vI a0), some (vI a1), some (vI (nI 0))] ⟨rfl, rfl, rfl, rfl, trivial⟩ ?_
  obtain ⟨k, hw⟩ := hw
  exact lk_X7_copyRow_2  hE  k _ _ _ _ hw
theorem lk_X7_train_12 {wd : gh_Wd} {x : gh_X} {Q : Int32 → gh_M → Prop}   (hE : gh_E wd (gh_Qi Q) x)   : ∀ (n : Nat) (x1 : Int32) (M : gh_M), wl_X7_train_12 Q n x1 M → gh_J mi_X7_train 6 wd x M 12 [some (vR 32 0), some (vI x1)] [] := by
  intro n
  induction n with
  | zero => intro x1 M hw; exact hw.elim
  | succ n ih =>
    intro x1 M hw
    unfold wl_X7_train_12 at hw
    refine gh_iload_n dc_X7_train_12 rfl ?_
    refine gh_bipush (v := (nI 71)) dc_X7_train_13 gb_71 ?_
    refine gh_icmp_ge (tgt := 35) dc_X7_train_15 rfl (fun c3 => ?_) (fun c3 => ?_)
    · replace hw := hw.1 c3
      refine gh_aload_n dc_X7_train_35 rfl ?_
      refine gh_callVv (mi' := mi_X7_readAll) (as := []) (S := []) (k := 32) (t := 0) dc_X7_train_36 ml_RX7_121 ok_X7_readAll rfl rfl (by decide) (Nat.le_of_ble_eq_true rfl) (by decide) (by decide) rfl rfl (wk_X7_readAll _ _ hw) (fun M5 hw => ?_)
      refine gh_aload_n dc_X7_train_39 rfl ?_
      refine gh_iconst (v := (nI 0)) dc_X7_train_40 gc_0 ?_
      refine gh_put (k := 32) (t := 0) dc_X7_train_41 fl_RX7_70 (by decide) (by decide) rfl rfl (fun _ h => by cases h; rfl) rfl rfl ?_
      obtain ⟨M6, eM6⟩ : ∃ z, z = (gh_st M5 32 0 8 (nI 0)) := ⟨_, rfl⟩
      rw [← eM6]
      replace hw := hw _ eM6
      refine gh_aload_n dc_X7_train_44 rfl ?_
      refine gh_callVi (mi' := mi_X7_fine) (as := []) (S := []) (k := 32) (t := 0) dc_X7_train_45 ml_RX7_77 ok_X7_fine rfl rfl (by decide) (Nat.le_of_ble_eq_true rfl) (by decide) (by decide) rfl rfl (wk_X7_fine _ _ hw) (fun r7 M8 hw => ?_)
      refine gh_if_ne (tgt := 67) dc_X7_train_48 rfl (fun c9 => ?_) (fun c9 => ?_)
      · replace hw := hw.1 c9
        refine gh_aload_n dc_X7_train_67 rfl ?_
        refine gh_sipush (v := (nI 1917)) dc_X7_train_68 gs_1917 ?_
        refine gh_iconst (v := (nI 0)) dc_X7_train_71 gc_0 ?_
        refine gh_callVv (mi' := mi_X7_copyRow) (as := [vI (nI 1917), vI (nI 0)]) (S := []) (k := 32) (t := 0) dc_X7_train_72 ml_RX7_128 ok_X7_copyRow rfl rfl (by decide) (Nat.le_of_ble_eq_true rfl) (by decide) (by decide) rfl rfl (wk_X7_copyRow _ _ _ _ hw) (fun M11 hw => ?_)
        refine gh_aload_n dc_X7_train_75 rfl ?_
        refine gh_iconst (v := (nI 0)) dc_X7_train_76 gc_0 ?_
        refine gh_put (k := 32) (t := 0) dc_X7_train_77 fl_RX7_131 (by decide) (by decide) rfl rfl (fun _ h => by cases h; rfl) rfl rfl ?_
        obtain ⟨M12, eM12⟩ : ∃ z, z = (gh_st M11 32 0 1 (nI 0)) := ⟨_, rfl⟩
        rw [← eM12]
        replace hw := hw _ eM12
        refine gh_aload_n dc_X7_train_80 rfl ?_
        refine gh_getR (k := 32) (t := 0) dc_X7_train_81 fl_RX7_7 (by decide) (by decide) rfl rfl ?_
        refine gh_iconst (v := (nI 1)) dc_X7_train_84 gc_1 ?_
        obtain ⟨h13, hw⟩ := hw
        refine gh_iald (k := 33) (t := 0) dc_X7_train_85 rfl (by decide) (by decide) h13 ?_
        exact gh_iret dc_X7_train_86 hE rfl hw
      · replace hw := hw.2 c9
        refine gh_aload_n dc_X7_train_51 rfl ?_
        refine gh_aload_n dc_X7_train_52 rfl ?_
        refine gh_getI (k := 32) (t := 0) dc_X7_train_53 fl_RX7_74 (by decide) (by decide) rfl rfl ?_
        refine gh_put (k := 32) (t := 0) dc_X7_train_56 fl_RX7_124 (by decide) (by decide) rfl rfl (fun _ h => by cases h; rfl) rfl rfl ?_
        obtain ⟨M14, eM14⟩ : ∃ z, z = (gh_st M8 32 0 9 (M8 32 0 17)) := ⟨_, rfl⟩
        rw [← eM14]
        replace hw := hw _ eM14
        refine gh_ldc (v := (-1000100 : Int32)) dc_X7_train_59 tw_978 ?_
        refine gh_aload_n dc_X7_train_61 rfl ?_
        refine gh_getI (k := 32) (t := 0) dc_X7_train_62 fl_RX7_81 (by decide) (by decide) rfl rfl ?_
        refine gh_isub dc_X7_train_65 ?_
        exact gh_iret dc_X7_train_66 hE rfl hw
    · replace hw := hw.2 c3
      refine gh_aload_n dc_X7_train_18 rfl ?_
      refine gh_getR (k := 32) (t := 0) dc_X7_train_19 fl_RX7_7 (by decide) (by decide) rfl rfl ?_
      refine gh_sipush (v := (nI 1917)) dc_X7_train_22 gs_1917 ?_
      refine gh_iload_n dc_X7_train_25 rfl ?_
      refine gh_iadd dc_X7_train_26 ?_
      refine gh_iconst (v := (nI 0)) dc_X7_train_27 gc_0 ?_
      obtain ⟨h15, hw⟩ := hw
      refine gh_iast (k := 33) (t := 0) dc_X7_train_28 rfl (by decide) (by decide) h15 ?_
      obtain ⟨M16, eM16⟩ : ∃ z, z = (gh_st M 33 0 ((nI 1917) + x1).toNatClampNeg (nI 0)) := ⟨_, rfl⟩
      rw [← eM16]
      replace hw := hw _ eM16
      obtain ⟨y1_17, ey1_17⟩ : ∃ z, z = (x1 + (nI 1)) := ⟨_, rfl⟩
      replace hw := hw _ ey1_17
      refine gh_iinc (v := y1_17) (L' := [some (vR 32 0), some (vI y1_17)]) dc_X7_train_29 rfl ((congrArg (fun z => x1 + z) gc_1).trans ey1_17.symm) (by decide) rfl rfl ?_
      refine gh_goto (tgt := 12) dc_X7_train_32 rfl ?_
      refine gh_drop (pc' := 0) [some (vR 32 0), some (vI y1_17)] ⟨rfl, rfl, trivial⟩ ?_
      exact ih _ _ hw
theorem wk_X7_train   (Q : Int32 → gh_M → Prop)  (M : gh_M) (hw : wp_X7_train   M Q) : gh_Calls 6 mi_X7_train [vR 32 0] M (gh_Qi Q) := by
  refine gh_of (by decide) rfl 1 rfl (L0 := [some (vR 32 0), none]) rfl (fun wd x hE => ?_)
  unfold wp_X7_train at hw
  refine gh_aload_n dc_X7_train_0 rfl ?_
  refine gh_iconst (v := (nI 0)) dc_X7_train_1 gc_0 ?_
  refine gh_put (k := 32) (t := 0) dc_X7_train_2 fl_RX7_84 (by decide) (by decide) rfl rfl (fun _ h => by cases h; rfl) rfl rfl ?_
  obtain ⟨M1, eM1⟩ : ∃ z, z = (gh_st M 32 0 16 (nI 0)) := ⟨_, rfl⟩
  rw [← eM1]
  replace hw := hw _ eM1
  refine gh_aload_n dc_X7_train_5 rfl ?_
  refine gh_iconst (v := (nI 0)) dc_X7_train_6 gc_0 ?_
  refine gh_put (k := 32) (t := 0) dc_X7_train_7 fl_RX7_74 (by decide) (by decide) rfl rfl (fun _ h => by cases h; rfl) rfl rfl ?_
  obtain ⟨M2, eM2⟩ : ∃ z, z = (gh_st M1 32 0 17 (nI 0)) := ⟨_, rfl⟩
  rw [← eM2]
  replace hw := hw _ eM2
  refine gh_iconst (v := (nI 0)) dc_X7_train_10 gc_0 ?_
  refine gh_istore_n (L' := [some (vR 32 0), some (vI (nI 0))]) dc_X7_train_11 (by decide) rfl rfl ?_
  refine gh_drop (pc' := 0) [some (vR 32 0), some (vI (nI 0))] ⟨rfl, rfl, trivial⟩ ?_
  obtain ⟨k, hw⟩ := hw
  exact lk_X7_train_12  hE  k _ _ hw
theorem wk_X7_fault   (Q : Int32 → gh_M → Prop)  (M : gh_M) (hw : wp_X7_fault   M Q) : gh_Calls 1 mi_X7_fault [vR 32 0] M (gh_Qi Q) := by
  refine gh_of (by decide) rfl 0 rfl (L0 := [some (vR 32 0)]) rfl (fun wd x hE => ?_)
  unfold wp_X7_fault at hw
  refine gh_aload_n dc_X7_fault_0 rfl ?_
  refine gh_getI (k := 32) (t := 0) dc_X7_fault_1 fl_RX7_124 (by decide) (by decide) rfl rfl ?_
  exact gh_iret dc_X7_fault_4 hE rfl hw
theorem wk_X7_undo   (Q : Int32 → gh_M → Prop)  (M : gh_M) (hw : wp_X7_undo   M Q) : gh_Calls 2 mi_X7_undo [vR 32 0] M (gh_Qi Q) := by
  refine gh_of (by decide) rfl 0 rfl (L0 := [some (vR 32 0)]) rfl (fun wd x hE => ?_)
  unfold wp_X7_undo at hw
  refine gh_aload_n dc_X7_undo_0 rfl ?_
  refine gh_getI (k := 32) (t := 0) dc_X7_undo_1 fl_RX7_131 (by decide) (by decide) rfl rfl ?_
  refine gh_if_ne (tgt := 10) dc_X7_undo_4 rfl (fun c1 => ?_) (fun c1 => ?_)
  · replace hw := hw.1 c1
    refine gh_aload_n dc_X7_undo_10 rfl ?_
    refine gh_dupR dc_X7_undo_11 ?_
    refine gh_getI (k := 32) (t := 0) dc_X7_undo_12 fl_RX7_131 (by decide) (by decide) rfl rfl ?_
    refine gh_iconst (v := (nI 1)) dc_X7_undo_15 gc_1 ?_
    refine gh_isub dc_X7_undo_16 ?_
    refine gh_put (k := 32) (t := 0) dc_X7_undo_17 fl_RX7_131 (by decide) (by decide) rfl rfl (fun _ h => by cases h; rfl) rfl rfl ?_
    obtain ⟨M2, eM2⟩ : ∃ z, z = (gh_st M 32 0 1 ((M 32 0 1) - (nI 1))) := ⟨_, rfl⟩
    rw [← eM2]
    replace hw := hw _ eM2
    refine gh_aload_n dc_X7_undo_20 rfl ?_
    refine gh_bipush (v := (nI 71)) dc_X7_undo_21 gb_71 ?_
    refine gh_bipush (v := (nI 71)) dc_X7_undo_23 gb_71 ?_
    refine gh_aload_n dc_X7_undo_25 rfl ?_
    refine gh_getI (k := 32) (t := 0) dc_X7_undo_26 fl_RX7_131 (by decide) (by decide) rfl rfl ?_
    refine gh_imul dc_X7_undo_29 ?_
    refine gh_iadd dc_X7_undo_30 ?_
    refine gh_iconst (v := (nI 0)) dc_X7_undo_31 gc_0 ?_
    refine gh_callVv (mi' := mi_X7_copyRow) (as := [vI ((nI 71) + ((nI 71) * (M2 32 0 1))), vI (nI 0)]) (S := []) (k := 32) (t := 0) dc_X7_undo_32 ml_RX7_128 ok_X7_copyRow rfl rfl (by decide) (Nat.le_of_ble_eq_true rfl) (by decide) (by decide) rfl rfl (wk_X7_copyRow _ _ _ _ hw) (fun M4 hw => ?_)
    refine gh_aload_n dc_X7_undo_35 rfl ?_
    refine gh_getI (k := 32) (t := 0) dc_X7_undo_36 fl_RX7_131 (by decide) (by decide) rfl rfl ?_
    exact gh_iret dc_X7_undo_39 hE rfl hw
  · replace hw := hw.2 c1
    refine gh_ldc (v := (-1000002 : Int32)) dc_X7_undo_7 tw_991 ?_
    exact gh_iret dc_X7_undo_9 hE rfl hw
theorem wk_X7_isTrain   (Q : Int32 → gh_M → Prop)  (M : gh_M) (hw : wp_X7_isTrain   M Q) : gh_Calls 1 mi_X7_isTrain [vR 32 0] M (gh_Qi Q) := by
  refine gh_of (by decide) rfl 0 rfl (L0 := [some (vR 32 0)]) rfl (fun wd x hE => ?_)
  unfold wp_X7_isTrain at hw
  refine gh_aload_n dc_X7_isTrain_0 rfl ?_
  refine gh_getR (k := 32) (t := 0) dc_X7_isTrain_1 fl_RX7_7 (by decide) (by decide) rfl rfl ?_
  refine gh_iconst (v := (nI 0)) dc_X7_isTrain_4 gc_0 ?_
  obtain ⟨h1, hw⟩ := hw
  refine gh_iald (k := 33) (t := 0) dc_X7_isTrain_5 rfl (by decide) (by decide) h1 ?_
  refine gh_if_le (tgt := 13) dc_X7_isTrain_6 rfl (fun c2 => ?_) (fun c2 => ?_)
  · replace hw := hw.1 c2
    refine gh_iconst (v := (nI 0)) dc_X7_isTrain_13 gc_0 ?_
    exact gh_zret dc_X7_isTrain_14 hE rfl (by decide) hw
  · replace hw := hw.2 c2
    refine gh_iconst (v := (nI 1)) dc_X7_isTrain_9 gc_1 ?_
    refine gh_goto (tgt := 14) dc_X7_isTrain_10 rfl ?_
    exact gh_zret dc_X7_isTrain_14 hE rfl (by decide) hw
theorem lk_X7_rankByNumbers_2 {wd : gh_Wd} {x : gh_X} {Q : gh_M → Prop}   (hE : gh_E wd (gh_Qv Q) x)   : ∀ (n : Nat) (x1 : Int32) (M : gh_M), wl_X7_rankByNumbers_2 Q n x1 M → gh_J mi_X7_rankByNumbers 1 wd x M 2 [some (vR 32 0), some (vI x1)] [] := by
  intro n
  induction n with
  | zero => intro x1 M hw; exact hw.elim
  | succ n ih =>
    intro x1 M hw
    unfold wl_X7_rankByNumbers_2 at hw
    refine gh_iload_n dc_X7_rankByNumbers_2 rfl ?_
    refine gh_bipush (v := (nI 6)) dc_X7_rankByNumbers_3 gb_6 ?_
    refine gh_icmp_ge (tgt := 21) dc_X7_rankByNumbers_5 rfl (fun c1 => ?_) (fun c1 => ?_)
    · replace hw := hw.1 c1
      exact gh_vret dc_X7_rankByNumbers_21 hE rfl hw
    · replace hw := hw.2 c1
      refine gh_aload_n dc_X7_rankByNumbers_8 rfl ?_
      refine gh_getR (k := 32) (t := 0) dc_X7_rankByNumbers_9 fl_RX7_13 (by decide) (by decide) rfl rfl ?_
      refine gh_iload_n dc_X7_rankByNumbers_12 rfl ?_
      refine gh_iload_n dc_X7_rankByNumbers_13 rfl ?_
      obtain ⟨h2, hw⟩ := hw
      refine gh_iast (k := 34) (t := 0) dc_X7_rankByNumbers_14 rfl (by decide) (by decide) h2 ?_
      obtain ⟨M3, eM3⟩ : ∃ z, z = (gh_st M 34 0 x1.toNatClampNeg x1) := ⟨_, rfl⟩
      rw [← eM3]
      replace hw := hw _ eM3
      obtain ⟨y1_4, ey1_4⟩ : ∃ z, z = (x1 + (nI 1)) := ⟨_, rfl⟩
      replace hw := hw _ ey1_4
      refine gh_iinc (v := y1_4) (L' := [some (vR 32 0), some (vI y1_4)]) dc_X7_rankByNumbers_15 rfl ((congrArg (fun z => x1 + z) gc_1).trans ey1_4.symm) (by decide) rfl rfl ?_
      refine gh_goto (tgt := 2) dc_X7_rankByNumbers_18 rfl ?_
      refine gh_drop (pc' := 0) [some (vR 32 0), some (vI y1_4)] ⟨rfl, rfl, trivial⟩ ?_
      exact ih _ _ hw
theorem wk_X7_rankByNumbers   (Q : gh_M → Prop)  (M : gh_M) (hw : wp_X7_rankByNumbers   M Q) : gh_Calls 1 mi_X7_rankByNumbers [vR 32 0] M (gh_Qv Q) := by
  refine gh_of (by decide) rfl 1 rfl (L0 := [some (vR 32 0), none]) rfl (fun wd x hE => ?_)
  unfold wp_X7_rankByNumbers at hw
  refine gh_iconst (v := (nI 0)) dc_X7_rankByNumbers_0 gc_0 ?_
  refine gh_istore_n (L' := [some (vR 32 0), some (vI (nI 0))]) dc_X7_rankByNumbers_1 (by decide) rfl rfl ?_
  refine gh_drop (pc' := 0) [some (vR 32 0), some (vI (nI 0))] ⟨rfl, rfl, trivial⟩ ?_
  obtain ⟨k, hw⟩ := hw
  exact lk_X7_rankByNumbers_2  hE  k _ _ hw
theorem lk_X7_carsThat_5 {wd : gh_Wd} {x : gh_X} {Q : Int32 → gh_M → Prop}   (hE : gh_E wd (gh_Qi Q) x)   : ∀ (n : Nat) (x1 : Int32) (x2 : Int32) (x3 : Int32) (x4 : Int32) (M : gh_M), wl_X7_carsThat_5 Q n x1 x2 x3 x4 M → gh_J mi_X7_carsThat 2 wd x M 5 [some (vR 32 0), some (vI x1), some (vI x2), some (vI x3), some (vI x4), none, none] [] := by
  intro n
  induction n with
  | zero => intro x1 x2 x3 x4 M hw; exact hw.elim
  | succ n ih =>
    intro x1 x2 x3 x4 M hw
    unfold wl_X7_carsThat_5 at hw
    refine gh_iload dc_X7_carsThat_5 rfl ?_
    refine gh_aload_n dc_X7_carsThat_7 rfl ?_
    refine gh_getR (k := 32) (t := 0) dc_X7_carsThat_8 fl_RX7_7 (by decide) (by decide) rfl rfl ?_
    refine gh_iload_n dc_X7_carsThat_11 rfl ?_
    refine gh_iconst (v := (nI 2)) dc_X7_carsThat_12 gc_2 ?_
    refine gh_iadd dc_X7_carsThat_13 ?_
    obtain ⟨h1, hw⟩ := hw
    refine gh_iald (k := 33) (t := 0) dc_X7_carsThat_14 rfl (by decide) (by decide) h1 ?_
    refine gh_icmp_ge (tgt := 109) dc_X7_carsThat_15 rfl (fun c2 => ?_) (fun c2 => ?_)
    · replace hw := hw.1 c2
      refine gh_iload_n dc_X7_carsThat_109 rfl ?_
      exact gh_iret dc_X7_carsThat_110 hE rfl hw
    · replace hw := hw.2 c2
      refine gh_aload_n dc_X7_carsThat_18 rfl ?_
      refine gh_getR (k := 32) (t := 0) dc_X7_carsThat_19 fl_RX7_7 (by decide) (by decide) rfl rfl ?_
      refine gh_iload_n dc_X7_carsThat_22 rfl ?_
      refine gh_iload dc_X7_carsThat_23 rfl ?_
      refine gh_callSi (mi' := mi_X7_carAt) (as := [vI x1, vI x4]) (S := [vR 33 0]) dc_X7_carsThat_25 ml_RX7_112 ok_X7_carAt rfl rfl (by decide) (Nat.le_of_ble_eq_true rfl) (wk_X7_carAt _ _ _ _ hw) (fun r3 M4 hw => ?_)
      refine gh_iconst (v := (nI 3)) dc_X7_carsThat_28 gc_3 ?_
      refine gh_iadd dc_X7_carsThat_29 ?_
      obtain ⟨h5, hw⟩ := hw
      refine gh_iald (k := 33) (t := 0) dc_X7_carsThat_30 rfl (by decide) (by decide) h5 ?_
      obtain ⟨y5_6, ey5_6⟩ : ∃ z, z = (M4 33 0 (r3 + (nI 3)).toNatClampNeg) := ⟨_, rfl⟩
      rw [← ey5_6]
      replace hw := hw _ ey5_6
      refine gh_istore (L' := [some (vR 32 0), some (vI x1), some (vI x2), some (vI x3), some (vI x4), some (vI y5_6), none]) dc_X7_carsThat_31 (by decide) rfl rfl ?_
      refine gh_iload_n dc_X7_carsThat_33 rfl ?_
      refine gh_iconst (v := (nI 1)) dc_X7_carsThat_34 gc_1 ?_
      refine gh_icmp_ne (tgt := 53) dc_X7_carsThat_35 rfl (fun c7 => ?_) (fun c7 => ?_)
      · replace hw := hw.1 c7
        refine gh_iload_n dc_X7_carsThat_53 rfl ?_
        refine gh_iconst (v := (nI 2)) dc_X7_carsThat_54 gc_2 ?_
        refine gh_icmp_ne (tgt := 73) dc_X7_carsThat_55 rfl (fun c8 => ?_) (fun c8 => ?_)
        · replace hw := hw.1 c8
          refine gh_iload dc_X7_carsThat_73 rfl ?_
          refine gh_bipush (v := (nI 21)) dc_X7_carsThat_75 gb_21 ?_
          refine gh_icmp_ne (tgt := 84) dc_X7_carsThat_77 rfl (fun c9 => ?_) (fun c9 => ?_)
          · replace hw := hw.1 c9
            refine gh_iconst (v := (nI 0)) dc_X7_carsThat_84 gc_0 ?_
            refine gh_istore (L' := [some (vR 32 0), some (vI x1), some (vI x2), some (vI x3), some (vI x4), some (vI y5_6), some (vI (nI 0))]) dc_X7_carsThat_85 (by decide) rfl rfl ?_
            refine gh_iload_n dc_X7_carsThat_87 rfl ?_
            refine gh_iload dc_X7_carsThat_88 rfl ?_
            refine gh_if_eq (tgt := 100) dc_X7_carsThat_90 rfl (fun _ => ?_) (fun h => absurd h (by decide))
            refine gh_iconst (v := (nI 0)) dc_X7_carsThat_100 gc_0 ?_
            refine gh_ior dc_X7_carsThat_101 ?_
            obtain ⟨y3_10, ey3_10⟩ : ∃ z, z = (x3 ||| (nI 0)) := ⟨_, rfl⟩
            rw [← ey3_10]
            replace hw := hw _ ey3_10
            refine gh_istore_n (L' := [some (vR 32 0), some (vI x1), some (vI x2), some (vI y3_10), some (vI x4), some (vI y5_6), some (vI (nI 0))]) dc_X7_carsThat_102 (by decide) rfl rfl ?_
            obtain ⟨y4_11, ey4_11⟩ : ∃ z, z = (x4 + (nI 1)) := ⟨_, rfl⟩
            replace hw := hw _ ey4_11
            refine gh_iinc (v := y4_11) (L' := [some (vR 32 0), some (vI x1), some (vI x2), some (vI y3_10), some (vI y4_11), some (vI y5_6), some (vI (nI 0))]) dc_X7_carsThat_103 rfl ((congrArg (fun z => x4 + z) gc_1).trans ey4_11.symm) (by decide) rfl rfl ?_
            refine gh_goto (tgt := 5) dc_X7_carsThat_106 rfl ?_
            refine gh_drop (pc' := 0) [some (vR 32 0), some (vI x1), some (vI x2), some (vI y3_10), some (vI y4_11), none, none] ⟨rfl, rfl, rfl, rfl, rfl, trivial⟩ ?_
            exact ih _ _ _ _ _ hw
          · replace hw := hw.2 c9
            refine gh_iconst (v := (nI 1)) dc_X7_carsThat_80 gc_1 ?_
            refine gh_goto (tgt := 85) dc_X7_carsThat_81 rfl ?_
            refine gh_istore (L' := [some (vR 32 0), some (vI x1), some (vI x2), some (vI x3), some (vI x4), some (vI y5_6), some (vI (nI 1))]) dc_X7_carsThat_85 (by decide) rfl rfl ?_
            refine gh_iload_n dc_X7_carsThat_87 rfl ?_
            refine gh_iload dc_X7_carsThat_88 rfl ?_
            refine gh_if_eq (tgt := 100) dc_X7_carsThat_90 rfl (fun h => absurd h (by decide)) (fun _ => ?_)
            refine gh_iconst (v := (nI 1)) dc_X7_carsThat_93 gc_1 ?_
            refine gh_iload dc_X7_carsThat_94 rfl ?_
            refine gh_ishl dc_X7_carsThat_96 ?_
            refine gh_goto (tgt := 101) dc_X7_carsThat_97 rfl ?_
            refine gh_ior dc_X7_carsThat_101 ?_
            obtain ⟨y3_12, ey3_12⟩ : ∃ z, z = (x3 ||| ((nI 1) <<< (x4 &&& 31))) := ⟨_, rfl⟩
            rw [← ey3_12]
            replace hw := hw _ ey3_12
            refine gh_istore_n (L' := [some (vR 32 0), some (vI x1), some (vI x2), some (vI y3_12), some (vI x4), some (vI y5_6), some (vI (nI 1))]) dc_X7_carsThat_102 (by decide) rfl rfl ?_
            obtain ⟨y4_13, ey4_13⟩ : ∃ z, z = (x4 + (nI 1)) := ⟨_, rfl⟩
            replace hw := hw _ ey4_13
            refine gh_iinc (v := y4_13) (L' := [some (vR 32 0), some (vI x1), some (vI x2), some (vI y3_12), some (vI y4_13), some (vI y5_6), some (vI (nI 1))]) dc_X7_carsThat_103 rfl ((congrArg (fun z => x4 + z) gc_1).trans ey4_13.symm) (by decide) rfl rfl ?_
            refine gh_goto (tgt := 5) dc_X7_carsThat_106 rfl ?_
            refine gh_drop (pc' := 0) [some (vR 32 0), some (vI x1), some (vI x2), some (vI y3_12), some (vI y4_13), none, none] ⟨rfl, rfl, rfl, rfl, rfl, trivial⟩ ?_
            exact ih _ _ _ _ _ hw
        · replace hw := hw.2 c8
          refine gh_iload dc_X7_carsThat_58 rfl ?_
          refine gh_bipush (v := (nI 20)) dc_X7_carsThat_60 gb_20 ?_
          refine gh_icmp_ge (tgt := 69) dc_X7_carsThat_62 rfl (fun c14 => ?_) (fun c14 => ?_)
          · replace hw := hw.1 c14
            refine gh_iconst (v := (nI 0)) dc_X7_carsThat_69 gc_0 ?_
            refine gh_goto (tgt := 85) dc_X7_carsThat_70 rfl ?_
            refine gh_istore (L' := [some (vR 32 0), some (vI x1), some (vI x2), some (vI x3), some (vI x4), some (vI y5_6), some (vI (nI 0))]) dc_X7_carsThat_85 (by decide) rfl rfl ?_
            refine gh_iload_n dc_X7_carsThat_87 rfl ?_
            refine gh_iload dc_X7_carsThat_88 rfl ?_
            refine gh_if_eq (tgt := 100) dc_X7_carsThat_90 rfl (fun _ => ?_) (fun h => absurd h (by decide))
            refine gh_iconst (v := (nI 0)) dc_X7_carsThat_100 gc_0 ?_
            refine gh_ior dc_X7_carsThat_101 ?_
            obtain ⟨y3_15, ey3_15⟩ : ∃ z, z = (x3 ||| (nI 0)) := ⟨_, rfl⟩
            rw [← ey3_15]
            replace hw := hw _ ey3_15
            refine gh_istore_n (L' := [some (vR 32 0), some (vI x1), some (vI x2), some (vI y3_15), some (vI x4), some (vI y5_6), some (vI (nI 0))]) dc_X7_carsThat_102 (by decide) rfl rfl ?_
            obtain ⟨y4_16, ey4_16⟩ : ∃ z, z = (x4 + (nI 1)) := ⟨_, rfl⟩
            replace hw := hw _ ey4_16
            refine gh_iinc (v := y4_16) (L' := [some (vR 32 0), some (vI x1), some (vI x2), some (vI y3_15), some (vI y4_16), some (vI y5_6), some (vI (nI 0))]) dc_X7_carsThat_103 rfl ((congrArg (fun z => x4 + z) gc_1).trans ey4_16.symm) (by decide) rfl rfl ?_
            refine gh_goto (tgt := 5) dc_X7_carsThat_106 rfl ?_
            refine gh_drop (pc' := 0) [some (vR 32 0), some (vI x1), some (vI x2), some (vI y3_15), some (vI y4_16), none, none] ⟨rfl, rfl, rfl, rfl, rfl, trivial⟩ ?_
            exact ih _ _ _ _ _ hw
          · replace hw := hw.2 c14
            refine gh_iconst (v := (nI 1)) dc_X7_carsThat_65 gc_1 ?_
            refine gh_goto (tgt := 85) dc_X7_carsThat_66 rfl ?_
            refine gh_istore (L' := [some (vR 32 0), some (vI x1), some (vI x2), some (vI x3), some (vI x4), some (vI y5_6), some (vI (nI 1))]) dc_X7_carsThat_85 (by decide) rfl rfl ?_
            refine gh_iload_n dc_X7_carsThat_87 rfl ?_
            refine gh_iload dc_X7_carsThat_88 rfl ?_
            refine gh_if_eq (tgt := 100) dc_X7_carsThat_90 rfl (fun h => absurd h (by decide)) (fun _ => ?_)
            refine gh_iconst (v := (nI 1)) dc_X7_carsThat_93 gc_1 ?_
            refine gh_iload dc_X7_carsThat_94 rfl ?_
            refine gh_ishl dc_X7_carsThat_96 ?_
            refine gh_goto (tgt := 101) dc_X7_carsThat_97 rfl ?_
            refine gh_ior dc_X7_carsThat_101 ?_
            obtain ⟨y3_17, ey3_17⟩ : ∃ z, z = (x3 ||| ((nI 1) <<< (x4 &&& 31))) := ⟨_, rfl⟩
            rw [← ey3_17]
            replace hw := hw _ ey3_17
            refine gh_istore_n (L' := [some (vR 32 0), some (vI x1), some (vI x2), some (vI y3_17), some (vI x4), some (vI y5_6), some (vI (nI 1))]) dc_X7_carsThat_102 (by decide) rfl rfl ?_
            obtain ⟨y4_18, ey4_18⟩ : ∃ z, z = (x4 + (nI 1)) := ⟨_, rfl⟩
            replace hw := hw _ ey4_18
            refine gh_iinc (v := y4_18) (L' := [some (vR 32 0), some (vI x1), some (vI x2), some (vI y3_17), some (vI y4_18), some (vI y5_6), some (vI (nI 1))]) dc_X7_carsThat_103 rfl ((congrArg (fun z => x4 + z) gc_1).trans ey4_18.symm) (by decide) rfl rfl ?_
            refine gh_goto (tgt := 5) dc_X7_carsThat_106 rfl ?_
            refine gh_drop (pc' := 0) [some (vR 32 0), some (vI x1), some (vI x2), some (vI y3_17), some (vI y4_18), none, none] ⟨rfl, rfl, rfl, rfl, rfl, trivial⟩ ?_
            exact ih _ _ _ _ _ hw
      · replace hw := hw.2 c7
        refine gh_iload dc_X7_carsThat_38 rfl ?_
        refine gh_bipush (v := (nI 20)) dc_X7_carsThat_40 gb_20 ?_
        refine gh_icmp_ne (tgt := 49) dc_X7_carsThat_42 rfl (fun c19 => ?_) (fun c19 => ?_)
        · replace hw := hw.1 c19
          refine gh_iconst (v := (nI 0)) dc_X7_carsThat_49 gc_0 ?_
          refine gh_goto (tgt := 85) dc_X7_carsThat_50 rfl ?_
          refine gh_istore (L' := [some (vR 32 0), some (vI x1), some (vI x2), some (vI x3), some (vI x4), some (vI y5_6), some (vI (nI 0))]) dc_X7_carsThat_85 (by decide) rfl rfl ?_
          refine gh_iload_n dc_X7_carsThat_87 rfl ?_
          refine gh_iload dc_X7_carsThat_88 rfl ?_
          refine gh_if_eq (tgt := 100) dc_X7_carsThat_90 rfl (fun _ => ?_) (fun h => absurd h (by decide))
          refine gh_iconst (v := (nI 0)) dc_X7_carsThat_100 gc_0 ?_
          refine gh_ior dc_X7_carsThat_101 ?_
          obtain ⟨y3_20, ey3_20⟩ : ∃ z, z = (x3 ||| (nI 0)) := ⟨_, rfl⟩
          rw [← ey3_20]
          replace hw := hw _ ey3_20
          refine gh_istore_n (L' := [some (vR 32 0), some (vI x1), some (vI x2), some (vI y3_20), some (vI x4), some (vI y5_6), some (vI (nI 0))]) dc_X7_carsThat_102 (by decide) rfl rfl ?_
          obtain ⟨y4_21, ey4_21⟩ : ∃ z, z = (x4 + (nI 1)) := ⟨_, rfl⟩
          replace hw := hw _ ey4_21
          refine gh_iinc (v := y4_21) (L' := [some (vR 32 0), some (vI x1), some (vI x2), some (vI y3_20), some (vI y4_21), some (vI y5_6), some (vI (nI 0))]) dc_X7_carsThat_103 rfl ((congrArg (fun z => x4 + z) gc_1).trans ey4_21.symm) (by decide) rfl rfl ?_
          refine gh_goto (tgt := 5) dc_X7_carsThat_106 rfl ?_
          refine gh_drop (pc' := 0) [some (vR 32 0), some (vI x1), some (vI x2), some (vI y3_20), some (vI y4_21), none, none] ⟨rfl, rfl, rfl, rfl, rfl, trivial⟩ ?_
          exact ih _ _ _ _ _ hw
        · replace hw := hw.2 c19
          refine gh_iconst (v := (nI 1)) dc_X7_carsThat_45 gc_1 ?_
          refine gh_goto (tgt := 85) dc_X7_carsThat_46 rfl ?_
          refine gh_istore (L' := [some (vR 32 0), some (vI x1), some (vI x2), some (vI x3), some (vI x4), some (vI y5_6), some (vI (nI 1))]) dc_X7_carsThat_85 (by decide) rfl rfl ?_
          refine gh_iload_n dc_X7_carsThat_87 rfl ?_
          refine gh_iload dc_X7_carsThat_88 rfl ?_
          refine gh_if_eq (tgt := 100) dc_X7_carsThat_90 rfl (fun h => absurd h (by decide)) (fun _ => ?_)
          refine gh_iconst (v := (nI 1)) dc_X7_carsThat_93 gc_1 ?_
          refine gh_iload dc_X7_carsThat_94 rfl ?_
          refine gh_ishl dc_X7_carsThat_96 ?_
          refine gh_goto (tgt := 101) dc_X7_carsThat_97 rfl ?_
          refine gh_ior dc_X7_carsThat_101 ?_
          obtain ⟨y3_22, ey3_22⟩ : ∃ z, z = (x3 ||| ((nI 1) <<< (x4 &&& 31))) := ⟨_, rfl⟩
          rw [← ey3_22]
          replace hw := hw _ ey3_22
          refine gh_istore_n (L' := [some (vR 32 0), some (vI x1), some (vI x2), some (vI y3_22), some (vI x4), some (vI y5_6), some (vI (nI 1))]) dc_X7_carsThat_102 (by decide) rfl rfl ?_
          obtain ⟨y4_23, ey4_23⟩ : ∃ z, z = (x4 + (nI 1)) := ⟨_, rfl⟩
          replace hw := hw _ ey4_23
          refine gh_iinc (v := y4_23) (L' := [some (vR 32 0), some (vI x1), some (vI x2), some (vI y3_22), some (vI y4_23), some (vI y5_6), some (vI (nI 1))]) dc_X7_carsThat_103 rfl ((congrArg (fun z => x4 + z) gc_1).trans ey4_23.symm) (by decide) rfl rfl ?_
          refine gh_goto (tgt := 5) dc_X7_carsThat_106 rfl ?_
          refine gh_drop (pc' := 0) [some (vR 32 0), some (vI x1), some (vI x2), some (vI y3_22), some (vI y4_23), none, none] ⟨rfl, rfl, rfl, rfl, rfl, trivial⟩ ?_
          exact ih _ _ _ _ _ hw
theorem wk_X7_carsThat   (Q : Int32 → gh_M → Prop) (a0 : Int32) (a1 : Int32) (M : gh_M) (hw : wp_X7_carsThat  a0 a1 M Q) : gh_Calls 2 mi_X7_carsThat [vR 32 0, vI a0, vI a1] M (gh_Qi Q) := by
  refine gh_of (by decide) rfl 4 rfl (L0 := [some (vR 32 0), some (vI a0), some (vI a1), none, none, none, none]) rfl (fun wd x hE => ?_)
  unfold wp_X7_carsThat at hw
  refine gh_iconst (v := (nI 0)) dc_X7_carsThat_0 gc_0 ?_
  refine gh_istore_n (L' := [some (vR 32 0), some (vI a0), some (vI a1), some (vI (nI 0)), none, none, none]) dc_X7_carsThat_1 (by decide) rfl rfl ?_
  refine gh_iconst (v := (nI 0)) dc_X7_carsThat_2 gc_0 ?_
  refine gh_istore (L' := [some (vR 32 0), some (vI a0), some (vI a1), some (vI (nI 0)), some (vI (nI 0)), none, none]) dc_X7_carsThat_3 (by decide) rfl rfl ?_
  refine gh_drop (pc' := 0) [some (vR 32 0), some (vI a0), some (vI a1), some (vI (nI 0)), some (vI (nI 0)), none, none] ⟨rfl, rfl, rfl, rfl, rfl, trivial⟩ ?_
  obtain ⟨k, hw⟩ := hw
  exact lk_X7_carsThat_5  hE  k _ _ _ _ _ hw
theorem lk_X7_remember_11 {wd : gh_Wd} {x : gh_X} {Q : gh_M → Prop}   (hE : gh_E wd (gh_Qv Q) x)   : ∀ (n : Nat) (x1 : Int32) (M : gh_M), wl_X7_remember_11 Q n x1 M → gh_J mi_X7_remember 2 wd x M 11 [some (vR 32 0), some (vI x1)] [] := by
  intro n
  induction n with
  | zero => intro x1 M hw; exact hw.elim
  | succ n ih =>
    intro x1 M hw
    unfold wl_X7_remember_11 at hw
    refine gh_iload_n dc_X7_remember_11 rfl ?_
    refine gh_bipush (v := (nI 24)) dc_X7_remember_12 gb_24 ?_
    refine gh_icmp_ge (tgt := 43) dc_X7_remember_14 rfl (fun c5 => ?_) (fun c5 => ?_)
    · replace hw := hw.1 c5
      refine gh_aload_n dc_X7_remember_43 rfl ?_
      refine gh_dupR dc_X7_remember_44 ?_
      refine gh_getI (k := 32) (t := 0) dc_X7_remember_45 fl_RX7_131 (by decide) (by decide) rfl rfl ?_
      refine gh_iconst (v := (nI 1)) dc_X7_remember_48 gc_1 ?_
      refine gh_isub dc_X7_remember_49 ?_
      refine gh_put (k := 32) (t := 0) dc_X7_remember_50 fl_RX7_131 (by decide) (by decide) rfl rfl (fun _ h => by cases h; rfl) rfl rfl ?_
      obtain ⟨M6, eM6⟩ : ∃ z, z = (gh_st M 32 0 1 ((M 32 0 1) - (nI 1))) := ⟨_, rfl⟩
      rw [← eM6]
      replace hw := hw _ eM6
      refine gh_aload_n dc_X7_remember_53 rfl ?_
      refine gh_iconst (v := (nI 0)) dc_X7_remember_54 gc_0 ?_
      refine gh_bipush (v := (nI 71)) dc_X7_remember_55 gb_71 ?_
      refine gh_bipush (v := (nI 71)) dc_X7_remember_57 gb_71 ?_
      refine gh_aload_n dc_X7_remember_59 rfl ?_
      refine gh_getI (k := 32) (t := 0) dc_X7_remember_60 fl_RX7_131 (by decide) (by decide) rfl rfl ?_
      refine gh_imul dc_X7_remember_63 ?_
      refine gh_iadd dc_X7_remember_64 ?_
      refine gh_callVv (mi' := mi_X7_copyRow) (as := [vI (nI 0), vI ((nI 71) + ((nI 71) * (M6 32 0 1)))]) (S := []) (k := 32) (t := 0) dc_X7_remember_65 ml_RX7_128 ok_X7_copyRow rfl rfl (by decide) (Nat.le_of_ble_eq_true rfl) (by decide) (by decide) rfl rfl (wk_X7_copyRow _ _ _ _ hw) (fun M8 hw => ?_)
      refine gh_aload_n dc_X7_remember_68 rfl ?_
      refine gh_dupR dc_X7_remember_69 ?_
      refine gh_getI (k := 32) (t := 0) dc_X7_remember_70 fl_RX7_131 (by decide) (by decide) rfl rfl ?_
      refine gh_iconst (v := (nI 1)) dc_X7_remember_73 gc_1 ?_
      refine gh_iadd dc_X7_remember_74 ?_
      refine gh_put (k := 32) (t := 0) dc_X7_remember_75 fl_RX7_131 (by decide) (by decide) rfl rfl (fun _ h => by cases h; rfl) rfl rfl ?_
      obtain ⟨M9, eM9⟩ : ∃ z, z = (gh_st M8 32 0 1 ((M8 32 0 1) + (nI 1))) := ⟨_, rfl⟩
      rw [← eM9]
      replace hw := hw _ eM9
      exact gh_vret dc_X7_remember_78 hE rfl hw
    · replace hw := hw.2 c5
      refine gh_aload_n dc_X7_remember_17 rfl ?_
      refine gh_bipush (v := (nI 71)) dc_X7_remember_18 gb_71 ?_
      refine gh_bipush (v := (nI 71)) dc_X7_remember_20 gb_71 ?_
      refine gh_iload_n dc_X7_remember_22 rfl ?_
      refine gh_imul dc_X7_remember_23 ?_
      refine gh_iadd dc_X7_remember_24 ?_
      refine gh_bipush (v := (nI 71)) dc_X7_remember_25 gb_71 ?_
      refine gh_bipush (v := (nI 71)) dc_X7_remember_27 gb_71 ?_
      refine gh_iload_n dc_X7_remember_29 rfl ?_
      refine gh_iconst (v := (nI 1)) dc_X7_remember_30 gc_1 ?_
      refine gh_isub dc_X7_remember_31 ?_
      refine gh_imul dc_X7_remember_32 ?_
      refine gh_iadd dc_X7_remember_33 ?_
      refine gh_callVv (mi' := mi_X7_copyRow) (as := [vI ((nI 71) + ((nI 71) * x1)), vI ((nI 71) + ((nI 71) * (x1 - (nI 1))))]) (S := []) (k := 32) (t := 0) dc_X7_remember_34 ml_RX7_128 ok_X7_copyRow rfl rfl (by decide) (Nat.le_of_ble_eq_true rfl) (by decide) (by decide) rfl rfl (wk_X7_copyRow _ _ _ _ hw) (fun M11 hw => ?_)
      obtain ⟨y1_12, ey1_12⟩ : ∃ z, z = (x1 + (nI 1)) := ⟨_, rfl⟩
      replace hw := hw _ ey1_12
      refine gh_iinc (v := y1_12) (L' := [some (vR 32 0), some (vI y1_12)]) dc_X7_remember_37 rfl ((congrArg (fun z => x1 + z) gc_1).trans ey1_12.symm) (by decide) rfl rfl ?_
      refine gh_goto (tgt := 11) dc_X7_remember_40 rfl ?_
      refine gh_drop (pc' := 0) [some (vR 32 0), some (vI y1_12)] ⟨rfl, rfl, trivial⟩ ?_
      exact ih _ _ hw
theorem wk_X7_remember   (Q : gh_M → Prop)  (M : gh_M) (hw : wp_X7_remember   M Q) : gh_Calls 2 mi_X7_remember [vR 32 0] M (gh_Qv Q) := by
  refine gh_of (by decide) rfl 1 rfl (L0 := [some (vR 32 0), none]) rfl (fun wd x hE => ?_)
  unfold wp_X7_remember at hw
  refine gh_aload_n dc_X7_remember_0 rfl ?_
  refine gh_getI (k := 32) (t := 0) dc_X7_remember_1 fl_RX7_131 (by decide) (by decide) rfl rfl ?_
  refine gh_bipush (v := (nI 24)) dc_X7_remember_4 gb_24 ?_
  refine gh_icmp_ne (tgt := 53) dc_X7_remember_6 rfl (fun c1 => ?_) (fun c1 => ?_)
  · replace hw := hw.1 c1
    refine gh_aload_n dc_X7_remember_53 rfl ?_
    refine gh_iconst (v := (nI 0)) dc_X7_remember_54 gc_0 ?_
    refine gh_bipush (v := (nI 71)) dc_X7_remember_55 gb_71 ?_
    refine gh_bipush (v := (nI 71)) dc_X7_remember_57 gb_71 ?_
    refine gh_aload_n dc_X7_remember_59 rfl ?_
    refine gh_getI (k := 32) (t := 0) dc_X7_remember_60 fl_RX7_131 (by decide) (by decide) rfl rfl ?_
    refine gh_imul dc_X7_remember_63 ?_
    refine gh_iadd dc_X7_remember_64 ?_
    refine gh_callVv (mi' := mi_X7_copyRow) (as := [vI (nI 0), vI ((nI 71) + ((nI 71) * (M 32 0 1)))]) (S := []) (k := 32) (t := 0) dc_X7_remember_65 ml_RX7_128 ok_X7_copyRow rfl rfl (by decide) (Nat.le_of_ble_eq_true rfl) (by decide) (by decide) rfl rfl (wk_X7_copyRow _ _ _ _ hw) (fun M3 hw => ?_)
    refine gh_aload_n dc_X7_remember_68 rfl ?_
    refine gh_dupR dc_X7_remember_69 ?_
    refine gh_getI (k := 32) (t := 0) dc_X7_remember_70 fl_RX7_131 (by decide) (by decide) rfl rfl ?_
    refine gh_iconst (v := (nI 1)) dc_X7_remember_73 gc_1 ?_
    refine gh_iadd dc_X7_remember_74 ?_
    refine gh_put (k := 32) (t := 0) dc_X7_remember_75 fl_RX7_131 (by decide) (by decide) rfl rfl (fun _ h => by cases h; rfl) rfl rfl ?_
    obtain ⟨M4, eM4⟩ : ∃ z, z = (gh_st M3 32 0 1 ((M3 32 0 1) + (nI 1))) := ⟨_, rfl⟩
    rw [← eM4]
    replace hw := hw _ eM4
    exact gh_vret dc_X7_remember_78 hE rfl hw
  · replace hw := hw.2 c1
    refine gh_iconst (v := (nI 1)) dc_X7_remember_9 gc_1 ?_
    refine gh_istore_n (L' := [some (vR 32 0), some (vI (nI 1))]) dc_X7_remember_10 (by decide) rfl rfl ?_
    refine gh_drop (pc' := 0) [some (vR 32 0), some (vI (nI 1))] ⟨rfl, rfl, trivial⟩ ?_
    obtain ⟨k, hw⟩ := hw
    exact lk_X7_remember_11  hE  k _ _ hw
theorem lk_X7_carIn_2 {wd : gh_Wd} {x : gh_X} {Q : Int32 → gh_M → Prop}   (hE : gh_E wd (gh_Qi Q) x)   : ∀ (n : Nat) (x1 : Int32) (x2 : Int32) (x3 : Int32) (M : gh_M), wl_X7_carIn_2 Q n x1 x2 x3 M → gh_J mi_X7_carIn 2 wd x M 2 [some (vR 32 0), some (vI x1), some (vI x2), some (vI x3)] [] := by
  intro n
  induction n with
  | zero => intro x1 x2 x3 M hw; exact hw.elim
  | succ n ih =>
    intro x1 x2 x3 M hw
    unfold wl_X7_carIn_2 at hw
    refine gh_iload_n dc_X7_carIn_2 rfl ?_
    refine gh_aload_n dc_X7_carIn_3 rfl ?_
    refine gh_getR (k := 32) (t := 0) dc_X7_carIn_4 fl_RX7_7 (by decide) (by decide) rfl rfl ?_
    refine gh_iload_n dc_X7_carIn_7 rfl ?_
    refine gh_iconst (v := (nI 2)) dc_X7_carIn_8 gc_2 ?_
    refine gh_iadd dc_X7_carIn_9 ?_
    obtain ⟨h1, hw⟩ := hw
    refine gh_iald (k := 33) (t := 0) dc_X7_carIn_10 rfl (by decide) (by decide) h1 ?_
    refine gh_icmp_ge (tgt := 38) dc_X7_carIn_11 rfl (fun c2 => ?_) (fun c2 => ?_)
    · replace hw := hw.1 c2
      refine gh_ldc (v := (-1000000 : Int32)) dc_X7_carIn_38 tw_1016 ?_
      exact gh_iret dc_X7_carIn_40 hE rfl hw
    · replace hw := hw.2 c2
      refine gh_aload_n dc_X7_carIn_14 rfl ?_
      refine gh_getR (k := 32) (t := 0) dc_X7_carIn_15 fl_RX7_7 (by decide) (by decide) rfl rfl ?_
      refine gh_iload_n dc_X7_carIn_18 rfl ?_
      refine gh_iload_n dc_X7_carIn_19 rfl ?_
      refine gh_callSi (mi' := mi_X7_carAt) (as := [vI x1, vI x3]) (S := [vR 33 0]) dc_X7_carIn_20 ml_RX7_112 ok_X7_carAt rfl rfl (by decide) (Nat.le_of_ble_eq_true rfl) (wk_X7_carAt _ _ _ _ hw) (fun r3 M4 hw => ?_)
      refine gh_iconst (v := (nI 3)) dc_X7_carIn_23 gc_3 ?_
      refine gh_iadd dc_X7_carIn_24 ?_
      obtain ⟨h5, hw⟩ := hw
      refine gh_iald (k := 33) (t := 0) dc_X7_carIn_25 rfl (by decide) (by decide) h5 ?_
      refine gh_iload_n dc_X7_carIn_26 rfl ?_
      refine gh_icmp_ne (tgt := 32) dc_X7_carIn_27 rfl (fun c6 => ?_) (fun c6 => ?_)
      · replace hw := hw.1 c6
        obtain ⟨y3_7, ey3_7⟩ : ∃ z, z = (x3 + (nI 1)) := ⟨_, rfl⟩
        replace hw := hw _ ey3_7
        refine gh_iinc (v := y3_7) (L' := [some (vR 32 0), some (vI x1), some (vI x2), some (vI y3_7)]) dc_X7_carIn_32 rfl ((congrArg (fun z => x3 + z) gc_1).trans ey3_7.symm) (by decide) rfl rfl ?_
        refine gh_goto (tgt := 2) dc_X7_carIn_35 rfl ?_
        refine gh_drop (pc' := 0) [some (vR 32 0), some (vI x1), some (vI x2), some (vI y3_7)] ⟨rfl, rfl, rfl, rfl, trivial⟩ ?_
        exact ih _ _ _ _ hw
      · replace hw := hw.2 c6
        refine gh_iload_n dc_X7_carIn_30 rfl ?_
        exact gh_iret dc_X7_carIn_31 hE rfl hw
theorem wk_X7_carIn   (Q : Int32 → gh_M → Prop) (a0 : Int32) (a1 : Int32) (M : gh_M) (hw : wp_X7_carIn  a0 a1 M Q) : gh_Calls 2 mi_X7_carIn [vR 32 0, vI a0, vI a1] M (gh_Qi Q) := by
  refine gh_of (by decide) rfl 1 rfl (L0 := [some (vR 32 0), some (vI a0), some (vI a1), none]) rfl (fun wd x hE => ?_)
  unfold wp_X7_carIn at hw
  refine gh_iconst (v := (nI 0)) dc_X7_carIn_0 gc_0 ?_
  refine gh_istore_n (L' := [some (vR 32 0), some (vI a0), some (vI a1), some (vI (nI 0))]) dc_X7_carIn_1 (by decide) rfl rfl ?_
  refine gh_drop (pc' := 0) [some (vR 32 0), some (vI a0), some (vI a1), some (vI (nI 0))] ⟨rfl, rfl, rfl, rfl, trivial⟩ ?_
  obtain ⟨k, hw⟩ := hw
  exact lk_X7_carIn_2  hE  k _ _ _ _ hw
theorem lk_X7_runsAlone_5 {wd : gh_Wd} {x : gh_X} {Q : Int32 → gh_M → Prop}   (hE : gh_E wd (gh_Qi Q) x)   : ∀ (n : Nat) (x1 : Int32) (x2 : Int32) (x3 : Int32) (x4 : Int32) (M : gh_M), wl_X7_runsAlone_5 Q n x1 x2 x3 x4 M → gh_J mi_X7_runsAlone 2 wd x M 5 [some (vR 32 0), some (vI x1), some (vI x2), some (vI x3), some (vI x4)] [] := by
  intro n
  induction n with
  | zero => intro x1 x2 x3 x4 M hw; exact hw.elim
  | succ n ih =>
    intro x1 x2 x3 x4 M hw
    unfold wl_X7_runsAlone_5 at hw
    refine gh_iload dc_X7_runsAlone_5 rfl ?_
    refine gh_aload_n dc_X7_runsAlone_7 rfl ?_
    refine gh_getR (k := 32) (t := 0) dc_X7_runsAlone_8 fl_RX7_7 (by decide) (by decide) rfl rfl ?_
    refine gh_iload_n dc_X7_runsAlone_11 rfl ?_
    refine gh_iconst (v := (nI 2)) dc_X7_runsAlone_12 gc_2 ?_
    refine gh_iadd dc_X7_runsAlone_13 ?_
    obtain ⟨h1, hw⟩ := hw
    refine gh_iald (k := 33) (t := 0) dc_X7_runsAlone_14 rfl (by decide) (by decide) h1 ?_
    refine gh_icmp_ge (tgt := 58) dc_X7_runsAlone_15 rfl (fun c2 => ?_) (fun c2 => ?_)
    · replace hw := hw.1 c2
      refine gh_iload_n dc_X7_runsAlone_58 rfl ?_
      exact gh_zret dc_X7_runsAlone_59 hE rfl hw.1 hw.2
    · replace hw := hw.2 c2
      refine gh_iload_n dc_X7_runsAlone_18 rfl ?_
      refine gh_if_eq (tgt := 50) dc_X7_runsAlone_19 rfl (fun c3 => ?_) (fun c3 => ?_)
      · replace hw := hw.1 c3
        refine gh_iconst (v := (nI 0)) dc_X7_runsAlone_50 gc_0 ?_
        refine gh_istore_n (L' := [some (vR 32 0), some (vI x1), some (vI x2), some (vI (nI 0)), some (vI x4)]) dc_X7_runsAlone_51 (by decide) rfl rfl ?_
        obtain ⟨y4_4, ey4_4⟩ : ∃ z, z = (x4 + (nI 1)) := ⟨_, rfl⟩
        replace hw := hw _ ey4_4
        refine gh_iinc (v := y4_4) (L' := [some (vR 32 0), some (vI x1), some (vI x2), some (vI (nI 0)), some (vI y4_4)]) dc_X7_runsAlone_52 rfl ((congrArg (fun z => x4 + z) gc_1).trans ey4_4.symm) (by decide) rfl rfl ?_
        refine gh_goto (tgt := 5) dc_X7_runsAlone_55 rfl ?_
        refine gh_drop (pc' := 0) [some (vR 32 0), some (vI x1), some (vI x2), some (vI (nI 0)), some (vI y4_4)] ⟨rfl, rfl, rfl, rfl, rfl, trivial⟩ ?_
        exact ih _ _ _ _ _ hw
      · replace hw := hw.2 c3
        refine gh_iload dc_X7_runsAlone_22 rfl ?_
        refine gh_iload_n dc_X7_runsAlone_24 rfl ?_
        refine gh_icmp_eq (tgt := 46) dc_X7_runsAlone_25 rfl (fun c5 => ?_) (fun c5 => ?_)
        · replace hw := hw.1 c5
          refine gh_iconst (v := (nI 1)) dc_X7_runsAlone_46 gc_1 ?_
          refine gh_goto (tgt := 51) dc_X7_runsAlone_47 rfl ?_
          refine gh_istore_n (L' := [some (vR 32 0), some (vI x1), some (vI x2), some (vI (nI 1)), some (vI x4)]) dc_X7_runsAlone_51 (by decide) rfl rfl ?_
          obtain ⟨y4_6, ey4_6⟩ : ∃ z, z = (x4 + (nI 1)) := ⟨_, rfl⟩
          replace hw := hw _ ey4_6
          refine gh_iinc (v := y4_6) (L' := [some (vR 32 0), some (vI x1), some (vI x2), some (vI (nI 1)), some (vI y4_6)]) dc_X7_runsAlone_52 rfl ((congrArg (fun z => x4 + z) gc_1).trans ey4_6.symm) (by decide) rfl rfl ?_
          refine gh_goto (tgt := 5) dc_X7_runsAlone_55 rfl ?_
          refine gh_drop (pc' := 0) [some (vR 32 0), some (vI x1), some (vI x2), some (vI (nI 1)), some (vI y4_6)] ⟨rfl, rfl, rfl, rfl, rfl, trivial⟩ ?_
          exact ih _ _ _ _ _ hw
        · replace hw := hw.2 c5
          refine gh_aload_n dc_X7_runsAlone_28 rfl ?_
          refine gh_getR (k := 32) (t := 0) dc_X7_runsAlone_29 fl_RX7_7 (by decide) (by decide) rfl rfl ?_
          refine gh_iload_n dc_X7_runsAlone_32 rfl ?_
          refine gh_iload dc_X7_runsAlone_33 rfl ?_
          refine gh_callSi (mi' := mi_X7_carAt) (as := [vI x1, vI x4]) (S := [vR 33 0]) dc_X7_runsAlone_35 ml_RX7_112 ok_X7_carAt rfl rfl (by decide) (Nat.le_of_ble_eq_true rfl) (wk_X7_carAt _ _ _ _ hw) (fun r7 M8 hw => ?_)
          refine gh_iconst (v := (nI 3)) dc_X7_runsAlone_38 gc_3 ?_
          refine gh_iadd dc_X7_runsAlone_39 ?_
          obtain ⟨h9, hw⟩ := hw
          refine gh_iald (k := 33) (t := 0) dc_X7_runsAlone_40 rfl (by decide) (by decide) h9 ?_
          refine gh_bipush (v := (nI 20)) dc_X7_runsAlone_41 gb_20 ?_
          refine gh_icmp_lt (tgt := 50) dc_X7_runsAlone_43 rfl (fun c10 => ?_) (fun c10 => ?_)
          · replace hw := hw.1 c10
            refine gh_iconst (v := (nI 0)) dc_X7_runsAlone_50 gc_0 ?_
            refine gh_istore_n (L' := [some (vR 32 0), some (vI x1), some (vI x2), some (vI (nI 0)), some (vI x4)]) dc_X7_runsAlone_51 (by decide) rfl rfl ?_
            obtain ⟨y4_11, ey4_11⟩ : ∃ z, z = (x4 + (nI 1)) := ⟨_, rfl⟩
            replace hw := hw _ ey4_11
            refine gh_iinc (v := y4_11) (L' := [some (vR 32 0), some (vI x1), some (vI x2), some (vI (nI 0)), some (vI y4_11)]) dc_X7_runsAlone_52 rfl ((congrArg (fun z => x4 + z) gc_1).trans ey4_11.symm) (by decide) rfl rfl ?_
            refine gh_goto (tgt := 5) dc_X7_runsAlone_55 rfl ?_
            refine gh_drop (pc' := 0) [some (vR 32 0), some (vI x1), some (vI x2), some (vI (nI 0)), some (vI y4_11)] ⟨rfl, rfl, rfl, rfl, rfl, trivial⟩ ?_
            exact ih _ _ _ _ _ hw
          · replace hw := hw.2 c10
            refine gh_iconst (v := (nI 1)) dc_X7_runsAlone_46 gc_1 ?_
            refine gh_goto (tgt := 51) dc_X7_runsAlone_47 rfl ?_
            refine gh_istore_n (L' := [some (vR 32 0), some (vI x1), some (vI x2), some (vI (nI 1)), some (vI x4)]) dc_X7_runsAlone_51 (by decide) rfl rfl ?_
            obtain ⟨y4_12, ey4_12⟩ : ∃ z, z = (x4 + (nI 1)) := ⟨_, rfl⟩
            replace hw := hw _ ey4_12
            refine gh_iinc (v := y4_12) (L' := [some (vR 32 0), some (vI x1), some (vI x2), some (vI (nI 1)), some (vI y4_12)]) dc_X7_runsAlone_52 rfl ((congrArg (fun z => x4 + z) gc_1).trans ey4_12.symm) (by decide) rfl rfl ?_
            refine gh_goto (tgt := 5) dc_X7_runsAlone_55 rfl ?_
            refine gh_drop (pc' := 0) [some (vR 32 0), some (vI x1), some (vI x2), some (vI (nI 1)), some (vI y4_12)] ⟨rfl, rfl, rfl, rfl, rfl, trivial⟩ ?_
            exact ih _ _ _ _ _ hw
theorem wk_X7_runsAlone   (Q : Int32 → gh_M → Prop) (a0 : Int32) (a1 : Int32) (M : gh_M) (hw : wp_X7_runsAlone  a0 a1 M Q) : gh_Calls 2 mi_X7_runsAlone [vR 32 0, vI a0, vI a1] M (gh_Qi Q) := by
  refine gh_of (by decide) rfl 2 rfl (L0 := [some (vR 32 0), some (vI a0), some (vI a1), none, none]) rfl (fun wd x hE => ?_)
  unfold wp_X7_runsAlone at hw
  refine gh_iconst (v := (nI 1)) dc_X7_runsAlone_0 gc_1 ?_
  refine gh_istore_n (L' := [some (vR 32 0), some (vI a0), some (vI a1), some (vI (nI 1)), none]) dc_X7_runsAlone_1 (by decide) rfl rfl ?_
  refine gh_iconst (v := (nI 0)) dc_X7_runsAlone_2 gc_0 ?_
  refine gh_istore (L' := [some (vR 32 0), some (vI a0), some (vI a1), some (vI (nI 1)), some (vI (nI 0))]) dc_X7_runsAlone_3 (by decide) rfl rfl ?_
  refine gh_drop (pc' := 0) [some (vR 32 0), some (vI a0), some (vI a1), some (vI (nI 1)), some (vI (nI 0))] ⟨rfl, rfl, rfl, rfl, rfl, trivial⟩ ?_
  obtain ⟨k, hw⟩ := hw
  exact lk_X7_runsAlone_5  hE  k _ _ _ _ _ hw
theorem wk_X7_fright   (Q : Int32 → gh_M → Prop) (a0 : Int32) (a1 : Int32) (a2 : Int32) (M : gh_M) (hw : wp_X7_fright  a0 a1 a2 M Q) : gh_Calls 3 mi_X7_fright [vR 32 0, vI a0, vI a1, vI a2] M (gh_Qi Q) := by
  refine gh_of (by decide) rfl 3 rfl (L0 := [some (vR 32 0), some (vI a0), some (vI a1), some (vI a2), none, none, none]) rfl (fun wd x hE => ?_)
  unfold wp_X7_fright at hw
  refine gh_iload_n dc_X7_fright_0 rfl ?_
  refine gh_iload_n dc_X7_fright_1 rfl ?_
  refine gh_callSi (mi' := mi_X7_trickAt) (as := [vI a0, vI a1]) (S := []) dc_X7_fright_2 ml_RX7_98 ok_X7_trickAt rfl rfl (by decide) (Nat.le_of_ble_eq_true rfl) (wk_X7_trickAt _ _ _ _ hw) (fun r1 M2 hw => ?_)
  refine gh_istore (L' := [some (vR 32 0), some (vI a0), some (vI a1), some (vI a2), some (vI r1), none, none]) dc_X7_fright_5 (by decide) rfl rfl ?_
  refine gh_aload_n dc_X7_fright_7 rfl ?_
  refine gh_getR (k := 32) (t := 0) dc_X7_fright_8 fl_RX7_7 (by decide) (by decide) rfl rfl ?_
  refine gh_iload dc_X7_fright_11 rfl ?_
  refine gh_iconst (v := (nI 2)) dc_X7_fright_13 gc_2 ?_
  refine gh_iadd dc_X7_fright_14 ?_
  obtain ⟨h3, hw⟩ := hw
  refine gh_iald (k := 33) (t := 0) dc_X7_fright_15 rfl (by decide) (by decide) h3 ?_
  obtain ⟨y5_4, ey5_4⟩ : ∃ z, z = (M2 33 0 (r1 + (nI 2)).toNatClampNeg) := ⟨_, rfl⟩
  rw [← ey5_4]
  replace hw := hw _ ey5_4
  refine gh_istore (L' := [some (vR 32 0), some (vI a0), some (vI a1), some (vI a2), some (vI r1), some (vI y5_4), none]) dc_X7_fright_16 (by decide) rfl rfl ?_
  refine gh_aload_n dc_X7_fright_18 rfl ?_
  refine gh_getR (k := 32) (t := 0) dc_X7_fright_19 fl_RX7_7 (by decide) (by decide) rfl rfl ?_
  refine gh_iload_n dc_X7_fright_22 rfl ?_
  refine gh_iload_n dc_X7_fright_23 rfl ?_
  refine gh_callSi (mi' := mi_X7_carAt) (as := [vI a0, vI a2]) (S := [vR 33 0]) dc_X7_fright_24 ml_RX7_112 ok_X7_carAt rfl rfl (by decide) (Nat.le_of_ble_eq_true rfl) (wk_X7_carAt _ _ _ _ hw) (fun r5 M6 hw => ?_)
  obtain ⟨h7, hw⟩ := hw
  refine gh_iald (k := 33) (t := 0) dc_X7_fright_27 rfl (by decide) (by decide) h7 ?_
  obtain ⟨y6_8, ey6_8⟩ : ∃ z, z = (M6 33 0 r5.toNatClampNeg) := ⟨_, rfl⟩
  rw [← ey6_8]
  replace hw := hw _ ey6_8
  refine gh_istore (L' := [some (vR 32 0), some (vI a0), some (vI a1), some (vI a2), some (vI r1), some (vI y5_4), some (vI y6_8)]) dc_X7_fright_28 (by decide) rfl rfl ?_
  refine gh_aload_n dc_X7_fright_30 rfl ?_
  refine gh_getR (k := 32) (t := 0) dc_X7_fright_31 fl_RX7_7 (by decide) (by decide) rfl rfl ?_
  refine gh_iload dc_X7_fright_34 rfl ?_
  obtain ⟨h9, hw⟩ := hw
  refine gh_iald (k := 33) (t := 0) dc_X7_fright_36 rfl (by decide) (by decide) h9 ?_
  refine (Decidable.em ((M6 33 0 r1.toNatClampNeg) = (nI 1))).elim (fun c10 => ?_) (fun c10 => ?_)
  · replace hw := hw.1 c10
    refine gh_tabIn (v := (nI 1)) (tgt := 68) dc_X7_fright_37 c10 (by decide) (by decide) rfl rfl ?_
    refine gh_iload dc_X7_fright_68 rfl ?_
    exact gh_iret dc_X7_fright_70 hE rfl hw
  · replace hw := hw.2 c10
    refine (Decidable.em ((M6 33 0 r1.toNatClampNeg) = (nI 2))).elim (fun c11 => ?_) (fun c11 => ?_)
    · replace hw := hw.1 c11
      refine gh_tabIn (v := (nI 2)) (tgt := 71) dc_X7_fright_37 c11 (by decide) (by decide) rfl rfl ?_
      refine gh_aload_n dc_X7_fright_71 rfl ?_
      refine gh_getR (k := 32) (t := 0) dc_X7_fright_72 fl_RX7_7 (by decide) (by decide) rfl rfl ?_
      refine gh_iload dc_X7_fright_75 rfl ?_
      refine gh_iconst (v := (nI 4)) dc_X7_fright_77 gc_4 ?_
      refine gh_iadd dc_X7_fright_78 ?_
      obtain ⟨h12, hw⟩ := hw
      refine gh_iald (k := 33) (t := 0) dc_X7_fright_79 rfl (by decide) (by decide) h12 ?_
      refine gh_iconst (v := (nI 2)) dc_X7_fright_80 gc_2 ?_
      obtain ⟨h13, hw⟩ := hw
      refine gh_irem dc_X7_fright_81 h13 ?_
      refine gh_if_ne (tgt := 90) dc_X7_fright_82 rfl (fun c14 => ?_) (fun c14 => ?_)
      · replace hw := hw.1 c14
        refine gh_iconst (v := (nI 0)) dc_X7_fright_90 gc_0 ?_
        exact gh_iret dc_X7_fright_91 hE rfl hw
      · replace hw := hw.2 c14
        refine gh_iload dc_X7_fright_85 rfl ?_
        refine gh_goto (tgt := 91) dc_X7_fright_87 rfl ?_
        exact gh_iret dc_X7_fright_91 hE rfl hw
    · replace hw := hw.2 c11
      refine (Decidable.em ((M6 33 0 r1.toNatClampNeg) = (nI 3))).elim (fun c15 => ?_) (fun c15 => ?_)
      · replace hw := hw.1 c15
        refine gh_tabIn (v := (nI 3)) (tgt := 92) dc_X7_fright_37 c15 (by decide) (by decide) rfl rfl ?_
        refine gh_aload_n dc_X7_fright_92 rfl ?_
        refine gh_iload_n dc_X7_fright_93 rfl ?_
        refine gh_iload_n dc_X7_fright_94 rfl ?_
        refine gh_callVi (mi' := mi_X7_runsAlone) (as := [vI a0, vI a2]) (S := []) (k := 32) (t := 0) dc_X7_fright_95 ml_RX7_135 ok_X7_runsAlone rfl rfl (by decide) (Nat.le_of_ble_eq_true rfl) (by decide) (by decide) rfl rfl (wk_X7_runsAlone _ _ _ _ hw) (fun r16 M17 hw => ?_)
        refine gh_if_eq (tgt := 108) dc_X7_fright_98 rfl (fun c18 => ?_) (fun c18 => ?_)
        · replace hw := hw.1 c18
          refine gh_iload dc_X7_fright_108 rfl ?_
          exact gh_iret dc_X7_fright_110 hE rfl hw
        · replace hw := hw.2 c18
          refine gh_iconst (v := (nI 2)) dc_X7_fright_101 gc_2 ?_
          refine gh_iload dc_X7_fright_102 rfl ?_
          refine gh_imul dc_X7_fright_104 ?_
          refine gh_goto (tgt := 110) dc_X7_fright_105 rfl ?_
          exact gh_iret dc_X7_fright_110 hE rfl hw
      · replace hw := hw.2 c15
        refine (Decidable.em ((M6 33 0 r1.toNatClampNeg) = (nI 4))).elim (fun c19 => ?_) (fun c19 => ?_)
        · replace hw := hw.1 c19
          refine gh_tabIn (v := (nI 4)) (tgt := 111) dc_X7_fright_37 c19 (by decide) (by decide) rfl rfl ?_
          refine gh_iload dc_X7_fright_111 rfl ?_
          refine gh_iload dc_X7_fright_113 rfl ?_
          refine gh_imul dc_X7_fright_115 ?_
          exact gh_iret dc_X7_fright_116 hE rfl hw
        · replace hw := hw.2 c19
          have q0 := lv_neT c10 (a := 1) (by decide)
          have q1 := lv_neT c11 (a := 2) (by decide)
          have q2 := lv_neT c15 (a := 3) (by decide)
          have q3 := lv_neT c19 (a := 4) (by decide)
          refine gh_tabOut (tgt := 117) dc_X7_fright_37 (by omega) rfl ?_
          refine gh_aload_n dc_X7_fright_117 rfl ?_
          refine gh_getR (k := 32) (t := 0) dc_X7_fright_118 fl_RX7_7 (by decide) (by decide) rfl rfl ?_
          refine gh_iload_n dc_X7_fright_121 rfl ?_
          refine gh_iconst (v := (nI 3)) dc_X7_fright_122 gc_3 ?_
          refine gh_iadd dc_X7_fright_123 ?_
          obtain ⟨h20, hw⟩ := hw
          refine gh_iald (k := 33) (t := 0) dc_X7_fright_124 rfl (by decide) (by decide) h20 ?_
          refine gh_iconst (v := (nI 2)) dc_X7_fright_125 gc_2 ?_
          obtain ⟨h21, hw⟩ := hw
          refine gh_irem dc_X7_fright_126 h21 ?_
          refine gh_iconst (v := (nI 1)) dc_X7_fright_127 gc_1 ?_
          refine gh_icmp_ne (tgt := 139) dc_X7_fright_128 rfl (fun c22 => ?_) (fun c22 => ?_)
          · replace hw := hw.1 c22
            refine gh_iconst (v := (nI 0)) dc_X7_fright_139 gc_0 ?_
            exact gh_iret dc_X7_fright_140 hE rfl hw
          · replace hw := hw.2 c22
            refine gh_iload dc_X7_fright_131 rfl ?_
            refine gh_iload dc_X7_fright_133 rfl ?_
            refine gh_imul dc_X7_fright_135 ?_
            refine gh_goto (tgt := 140) dc_X7_fright_136 rfl ?_
            exact gh_iret dc_X7_fright_140 hE rfl hw
theorem lk_X7_comes_20 {wd : gh_Wd} {x : gh_X} {Q : Int32 → gh_M → Prop}   (hE : gh_E wd (gh_Qi Q) x)   : ∀ (n : Nat) (x1 : Int32) (x2 : Int32) (x3 : Int32) (x4 : Int32) (x5 : Int32) (M : gh_M), wl_X7_comes_20 Q n x1 x2 x3 x4 x5 M → gh_J mi_X7_comes 4 wd x M 20 [some (vR 32 0), some (vI x1), some (vI x2), some (vI x3), some (vI x4), some (vI x5), none] [] := by
  intro n
  induction n with
  | zero => intro x1 x2 x3 x4 x5 M hw; exact hw.elim
  | succ n ih =>
    intro x1 x2 x3 x4 x5 M hw
    unfold wl_X7_comes_20 at hw
    refine gh_iload dc_X7_comes_20 rfl ?_
    refine gh_aload_n dc_X7_comes_22 rfl ?_
    refine gh_getR (k := 32) (t := 0) dc_X7_comes_23 fl_RX7_7 (by decide) (by decide) rfl rfl ?_
    refine gh_iload_n dc_X7_comes_26 rfl ?_
    refine gh_iconst (v := (nI 1)) dc_X7_comes_27 gc_1 ?_
    refine gh_iadd dc_X7_comes_28 ?_
    obtain ⟨h5, hw⟩ := hw
    refine gh_iald (k := 33) (t := 0) dc_X7_comes_29 rfl (by decide) (by decide) h5 ?_
    refine gh_icmp_ge (tgt := 125) dc_X7_comes_30 rfl (fun c6 => ?_) (fun c6 => ?_)
    · replace hw := hw.1 c6
      refine gh_aload_n dc_X7_comes_125 rfl ?_
      refine gh_getR (k := 32) (t := 0) dc_X7_comes_126 fl_RX7_7 (by decide) (by decide) rfl rfl ?_
      refine gh_iload dc_X7_comes_129 rfl ?_
      refine gh_iconst (v := (nI 4)) dc_X7_comes_131 gc_4 ?_
      refine gh_iadd dc_X7_comes_132 ?_
      obtain ⟨h7, hw⟩ := hw
      refine gh_iald (k := 33) (t := 0) dc_X7_comes_133 rfl (by decide) (by decide) h7 ?_
      refine gh_aload_n dc_X7_comes_134 rfl ?_
      refine gh_getR (k := 32) (t := 0) dc_X7_comes_135 fl_RX7_7 (by decide) (by decide) rfl rfl ?_
      refine gh_iload dc_X7_comes_138 rfl ?_
      refine gh_iconst (v := (nI 1)) dc_X7_comes_140 gc_1 ?_
      refine gh_iadd dc_X7_comes_141 ?_
      obtain ⟨h8, hw⟩ := hw
      refine gh_iald (k := 33) (t := 0) dc_X7_comes_142 rfl (by decide) (by decide) h8 ?_
      refine gh_icmp_ge (tgt := 148) dc_X7_comes_143 rfl (fun c9 => ?_) (fun c9 => ?_)
      · replace hw := hw.1 c9
        refine gh_aload_n dc_X7_comes_148 rfl ?_
        refine gh_getR (k := 32) (t := 0) dc_X7_comes_149 fl_RX7_7 (by decide) (by decide) rfl rfl ?_
        refine gh_iload dc_X7_comes_152 rfl ?_
        refine gh_iconst (v := (nI 5)) dc_X7_comes_154 gc_5 ?_
        refine gh_iadd dc_X7_comes_155 ?_
        refine gh_dup2 dc_X7_comes_156 ?_
        obtain ⟨h10, hw⟩ := hw
        refine gh_iald (k := 33) (t := 0) dc_X7_comes_157 rfl (by decide) (by decide) h10 ?_
        refine gh_iconst (v := (nI 1)) dc_X7_comes_158 gc_1 ?_
        refine gh_iadd dc_X7_comes_159 ?_
        obtain ⟨h11, hw⟩ := hw
        refine gh_iast (k := 33) (t := 0) dc_X7_comes_160 rfl (by decide) (by decide) h11 ?_
        obtain ⟨M12, eM12⟩ : ∃ z, z = (gh_st M 33 0 (x4 + (nI 5)).toNatClampNeg ((M 33 0 (x4 + (nI 5)).toNatClampNeg) + (nI 1))) := ⟨_, rfl⟩
        rw [← eM12]
        replace hw := hw _ eM12
        refine gh_aload_n dc_X7_comes_161 rfl ?_
        refine gh_getR (k := 32) (t := 0) dc_X7_comes_162 fl_RX7_7 (by decide) (by decide) rfl rfl ?_
        refine gh_iload dc_X7_comes_165 rfl ?_
        refine gh_iconst (v := (nI 4)) dc_X7_comes_167 gc_4 ?_
        refine gh_iadd dc_X7_comes_168 ?_
        refine gh_iconst (v := (nI 0)) dc_X7_comes_169 gc_0 ?_
        obtain ⟨h13, hw⟩ := hw
        refine gh_iast (k := 33) (t := 0) dc_X7_comes_170 rfl (by decide) (by decide) h13 ?_
        obtain ⟨M14, eM14⟩ : ∃ z, z = (gh_st M12 33 0 (x4 + (nI 4)).toNatClampNeg (nI 0)) := ⟨_, rfl⟩
        rw [← eM14]
        replace hw := hw _ eM14
        refine gh_aload_n dc_X7_comes_171 rfl ?_
        refine gh_getR (k := 32) (t := 0) dc_X7_comes_172 fl_RX7_7 (by decide) (by decide) rfl rfl ?_
        refine gh_iload dc_X7_comes_175 rfl ?_
        refine gh_bipush (v := (nI 6)) dc_X7_comes_177 gb_6 ?_
        refine gh_iadd dc_X7_comes_179 ?_
        refine gh_iconst (v := (nI 1)) dc_X7_comes_180 gc_1 ?_
        obtain ⟨h15, hw⟩ := hw
        refine gh_iast (k := 33) (t := 0) dc_X7_comes_181 rfl (by decide) (by decide) h15 ?_
        obtain ⟨M16, eM16⟩ : ∃ z, z = (gh_st M14 33 0 (x4 + (nI 6)).toNatClampNeg (nI 1)) := ⟨_, rfl⟩
        rw [← eM16]
        replace hw := hw _ eM16
        refine gh_aload_n dc_X7_comes_182 rfl ?_
        refine gh_dupR dc_X7_comes_183 ?_
        refine gh_getI (k := 32) (t := 0) dc_X7_comes_184 fl_RX7_143 (by decide) (by decide) rfl rfl ?_
        refine gh_iconst (v := (nI 1)) dc_X7_comes_187 gc_1 ?_
        refine gh_iadd dc_X7_comes_188 ?_
        refine gh_put (k := 32) (t := 0) dc_X7_comes_189 fl_RX7_143 (by decide) (by decide) rfl rfl (fun _ h => by cases h; rfl) rfl rfl ?_
        obtain ⟨M17, eM17⟩ : ∃ z, z = (gh_st M16 32 0 5 ((M16 32 0 5) + (nI 1))) := ⟨_, rfl⟩
        rw [← eM17]
        replace hw := hw _ eM17
        refine gh_aload_n dc_X7_comes_192 rfl ?_
        refine gh_getR (k := 32) (t := 0) dc_X7_comes_193 fl_RX7_19 (by decide) (by decide) rfl rfl ?_
        refine gh_iload_n dc_X7_comes_196 rfl ?_
        refine gh_dup2 dc_X7_comes_197 ?_
        obtain ⟨h18, hw⟩ := hw
        refine gh_iald (k := 36) (t := 0) dc_X7_comes_198 rfl (by decide) (by decide) h18 ?_
        refine gh_iconst (v := (nI 1)) dc_X7_comes_199 gc_1 ?_
        refine gh_iadd dc_X7_comes_200 ?_
        obtain ⟨h19, hw⟩ := hw
        refine gh_iast (k := 36) (t := 0) dc_X7_comes_201 rfl (by decide) (by decide) h19 ?_
        obtain ⟨M20, eM20⟩ : ∃ z, z = (gh_st M17 36 0 x2.toNatClampNeg ((M17 36 0 x2.toNatClampNeg) + (nI 1))) := ⟨_, rfl⟩
        rw [← eM20]
        replace hw := hw _ eM20
        refine gh_iconst (v := (nI 1)) dc_X7_comes_202 gc_1 ?_
        exact gh_zret dc_X7_comes_203 hE rfl (by decide) hw
      · replace hw := hw.2 c9
        refine gh_iconst (v := (nI 0)) dc_X7_comes_146 gc_0 ?_
        exact gh_zret dc_X7_comes_147 hE rfl (by decide) hw
    · replace hw := hw.2 c6
      refine gh_iload_n dc_X7_comes_33 rfl ?_
      refine gh_iload dc_X7_comes_34 rfl ?_
      refine gh_callSi (mi' := mi_X7_trickAt) (as := [vI x1, vI x5]) (S := []) dc_X7_comes_36 ml_RX7_98 ok_X7_trickAt rfl rfl (by decide) (Nat.le_of_ble_eq_true rfl) (wk_X7_trickAt _ _ _ _ hw) (fun r21 M22 hw => ?_)
      refine gh_istore (L' := [some (vR 32 0), some (vI x1), some (vI x2), some (vI x3), some (vI x4), some (vI x5), some (vI r21)]) dc_X7_comes_39 (by decide) rfl rfl ?_
      refine gh_aload_n dc_X7_comes_41 rfl ?_
      refine gh_getR (k := 32) (t := 0) dc_X7_comes_42 fl_RX7_7 (by decide) (by decide) rfl rfl ?_
      refine gh_iload dc_X7_comes_45 rfl ?_
      refine gh_iconst (v := (nI 3)) dc_X7_comes_47 gc_3 ?_
      refine gh_iadd dc_X7_comes_48 ?_
      obtain ⟨h23, hw⟩ := hw
      refine gh_iald (k := 33) (t := 0) dc_X7_comes_49 rfl (by decide) (by decide) h23 ?_
      refine gh_iconst (v := (nI 1)) dc_X7_comes_50 gc_1 ?_
      refine gh_icmp_ne (tgt := 119) dc_X7_comes_51 rfl (fun c24 => ?_) (fun c24 => ?_)
      · replace hw := hw.1 c24
        obtain ⟨y5_25, ey5_25⟩ : ∃ z, z = (x5 + (nI 1)) := ⟨_, rfl⟩
        replace hw := hw _ ey5_25
        refine gh_iinc (v := y5_25) (L' := [some (vR 32 0), some (vI x1), some (vI x2), some (vI x3), some (vI x4), some (vI y5_25), some (vI r21)]) dc_X7_comes_119 rfl ((congrArg (fun z => x5 + z) gc_1).trans ey5_25.symm) (by decide) rfl rfl ?_
        refine gh_goto (tgt := 20) dc_X7_comes_122 rfl ?_
        refine gh_drop (pc' := 0) [some (vR 32 0), some (vI x1), some (vI x2), some (vI x3), some (vI x4), some (vI y5_25), none] ⟨rfl, rfl, rfl, rfl, rfl, rfl, trivial⟩ ?_
        exact ih _ _ _ _ _ _ hw
      · replace hw := hw.2 c24
        refine gh_aload_n dc_X7_comes_54 rfl ?_
        refine gh_getR (k := 32) (t := 0) dc_X7_comes_55 fl_RX7_7 (by decide) (by decide) rfl rfl ?_
        refine gh_iload dc_X7_comes_58 rfl ?_
        refine gh_iconst (v := (nI 1)) dc_X7_comes_60 gc_1 ?_
        refine gh_iadd dc_X7_comes_61 ?_
        obtain ⟨h26, hw⟩ := hw
        refine gh_iald (k := 33) (t := 0) dc_X7_comes_62 rfl (by decide) (by decide) h26 ?_
        refine gh_iload_n dc_X7_comes_63 rfl ?_
        refine gh_icmp_ne (tgt := 119) dc_X7_comes_64 rfl (fun c27 => ?_) (fun c27 => ?_)
        · replace hw := hw.1 c27
          obtain ⟨y5_28, ey5_28⟩ : ∃ z, z = (x5 + (nI 1)) := ⟨_, rfl⟩
          replace hw := hw _ ey5_28
          refine gh_iinc (v := y5_28) (L' := [some (vR 32 0), some (vI x1), some (vI x2), some (vI x3), some (vI x4), some (vI y5_28), some (vI r21)]) dc_X7_comes_119 rfl ((congrArg (fun z => x5 + z) gc_1).trans ey5_28.symm) (by decide) rfl rfl ?_
          refine gh_goto (tgt := 20) dc_X7_comes_122 rfl ?_
          refine gh_drop (pc' := 0) [some (vR 32 0), some (vI x1), some (vI x2), some (vI x3), some (vI x4), some (vI y5_28), none] ⟨rfl, rfl, rfl, rfl, rfl, rfl, trivial⟩ ?_
          exact ih _ _ _ _ _ _ hw
        · replace hw := hw.2 c27
          refine gh_aload_n dc_X7_comes_67 rfl ?_
          refine gh_getR (k := 32) (t := 0) dc_X7_comes_68 fl_RX7_7 (by decide) (by decide) rfl rfl ?_
          refine gh_iload dc_X7_comes_71 rfl ?_
          refine gh_iconst (v := (nI 4)) dc_X7_comes_73 gc_4 ?_
          refine gh_iadd dc_X7_comes_74 ?_
          refine gh_dup2 dc_X7_comes_75 ?_
          obtain ⟨h29, hw⟩ := hw
          refine gh_iald (k := 33) (t := 0) dc_X7_comes_76 rfl (by decide) (by decide) h29 ?_
          refine gh_aload_n dc_X7_comes_77 rfl ?_
          refine gh_getR (k := 32) (t := 0) dc_X7_comes_78 fl_RX7_7 (by decide) (by decide) rfl rfl ?_
          refine gh_iload dc_X7_comes_81 rfl ?_
          refine gh_iconst (v := (nI 4)) dc_X7_comes_83 gc_4 ?_
          refine gh_iadd dc_X7_comes_84 ?_
          obtain ⟨h30, hw⟩ := hw
          refine gh_iald (k := 33) (t := 0) dc_X7_comes_85 rfl (by decide) (by decide) h30 ?_
          refine gh_sipush (v := (nI 999)) dc_X7_comes_86 gs_999 ?_
          refine gh_icmp_ge (tgt := 96) dc_X7_comes_89 rfl (fun c31 => ?_) (fun c31 => ?_)
          · replace hw := hw.1 c31
            refine gh_iconst (v := (nI 0)) dc_X7_comes_96 gc_0 ?_
            refine gh_iadd dc_X7_comes_97 ?_
            obtain ⟨h32, hw⟩ := hw
            refine gh_iast (k := 33) (t := 0) dc_X7_comes_98 rfl (by decide) (by decide) h32 ?_
            obtain ⟨M33, eM33⟩ : ∃ z, z = (gh_st M22 33 0 (r21 + (nI 4)).toNatClampNeg ((M22 33 0 (r21 + (nI 4)).toNatClampNeg) + (nI 0))) := ⟨_, rfl⟩
            rw [← eM33]
            replace hw := hw _ eM33
            refine gh_aload_n dc_X7_comes_99 rfl ?_
            refine gh_getR (k := 32) (t := 0) dc_X7_comes_100 fl_RX7_7 (by decide) (by decide) rfl rfl ?_
            refine gh_iload dc_X7_comes_103 rfl ?_
            refine gh_iconst (v := (nI 4)) dc_X7_comes_105 gc_4 ?_
            refine gh_iadd dc_X7_comes_106 ?_
            refine gh_dup2 dc_X7_comes_107 ?_
            obtain ⟨h34, hw⟩ := hw
            refine gh_iald (k := 33) (t := 0) dc_X7_comes_108 rfl (by decide) (by decide) h34 ?_
            refine gh_aload_n dc_X7_comes_109 rfl ?_
            refine gh_iload_n dc_X7_comes_110 rfl ?_
            refine gh_iload dc_X7_comes_111 rfl ?_
            refine gh_iload_n dc_X7_comes_113 rfl ?_
            refine gh_callVi (mi' := mi_X7_fright) (as := [vI x1, vI x5, vI x2]) (S := [vI (M33 33 0 (x4 + (nI 4)).toNatClampNeg), vI (x4 + (nI 4)), vR 33 0]) (k := 32) (t := 0) dc_X7_comes_114 ml_RX7_139 ok_X7_fright rfl rfl (by decide) (Nat.le_of_ble_eq_true rfl) (by decide) (by decide) rfl rfl (wk_X7_fright _ _ _ _ _ hw) (fun r35 M36 hw => ?_)
            refine gh_iadd dc_X7_comes_117 ?_
            obtain ⟨h37, hw⟩ := hw
            refine gh_iast (k := 33) (t := 0) dc_X7_comes_118 rfl (by decide) (by decide) h37 ?_
            obtain ⟨M38, eM38⟩ : ∃ z, z = (gh_st M36 33 0 (x4 + (nI 4)).toNatClampNeg ((M33 33 0 (x4 + (nI 4)).toNatClampNeg) + r35)) := ⟨_, rfl⟩
            rw [← eM38]
            replace hw := hw _ eM38
            obtain ⟨y5_39, ey5_39⟩ : ∃ z, z = (x5 + (nI 1)) := ⟨_, rfl⟩
            replace hw := hw _ ey5_39
            refine gh_iinc (v := y5_39) (L' := [some (vR 32 0), some (vI x1), some (vI x2), some (vI x3), some (vI x4), some (vI y5_39), some (vI r21)]) dc_X7_comes_119 rfl ((congrArg (fun z => x5 + z) gc_1).trans ey5_39.symm) (by decide) rfl rfl ?_
            refine gh_goto (tgt := 20) dc_X7_comes_122 rfl ?_
            refine gh_drop (pc' := 0) [some (vR 32 0), some (vI x1), some (vI x2), some (vI x3), some (vI x4), some (vI y5_39), none] ⟨rfl, rfl, rfl, rfl, rfl, rfl, trivial⟩ ?_
            exact ih _ _ _ _ _ _ hw
          · replace hw := hw.2 c31
            refine gh_iconst (v := (nI 1)) dc_X7_comes_92 gc_1 ?_
            refine gh_goto (tgt := 97) dc_X7_comes_93 rfl ?_
            refine gh_iadd dc_X7_comes_97 ?_
            obtain ⟨h40, hw⟩ := hw
            refine gh_iast (k := 33) (t := 0) dc_X7_comes_98 rfl (by decide) (by decide) h40 ?_
            obtain ⟨M41, eM41⟩ : ∃ z, z = (gh_st M22 33 0 (r21 + (nI 4)).toNatClampNeg ((M22 33 0 (r21 + (nI 4)).toNatClampNeg) + (nI 1))) := ⟨_, rfl⟩
            rw [← eM41]
            replace hw := hw _ eM41
            refine gh_aload_n dc_X7_comes_99 rfl ?_
            refine gh_getR (k := 32) (t := 0) dc_X7_comes_100 fl_RX7_7 (by decide) (by decide) rfl rfl ?_
            refine gh_iload dc_X7_comes_103 rfl ?_
            refine gh_iconst (v := (nI 4)) dc_X7_comes_105 gc_4 ?_
            refine gh_iadd dc_X7_comes_106 ?_
            refine gh_dup2 dc_X7_comes_107 ?_
            obtain ⟨h42, hw⟩ := hw
            refine gh_iald (k := 33) (t := 0) dc_X7_comes_108 rfl (by decide) (by decide) h42 ?_
            refine gh_aload_n dc_X7_comes_109 rfl ?_
            refine gh_iload_n dc_X7_comes_110 rfl ?_
            refine gh_iload dc_X7_comes_111 rfl ?_
            refine gh_iload_n dc_X7_comes_113 rfl ?_
            refine gh_callVi (mi' := mi_X7_fright) (as := [vI x1, vI x5, vI x2]) (S := [vI (M41 33 0 (x4 + (nI 4)).toNatClampNeg), vI (x4 + (nI 4)), vR 33 0]) (k := 32) (t := 0) dc_X7_comes_114 ml_RX7_139 ok_X7_fright rfl rfl (by decide) (Nat.le_of_ble_eq_true rfl) (by decide) (by decide) rfl rfl (wk_X7_fright _ _ _ _ _ hw) (fun r43 M44 hw => ?_)
            refine gh_iadd dc_X7_comes_117 ?_
            obtain ⟨h45, hw⟩ := hw
            refine gh_iast (k := 33) (t := 0) dc_X7_comes_118 rfl (by decide) (by decide) h45 ?_
            obtain ⟨M46, eM46⟩ : ∃ z, z = (gh_st M44 33 0 (x4 + (nI 4)).toNatClampNeg ((M41 33 0 (x4 + (nI 4)).toNatClampNeg) + r43)) := ⟨_, rfl⟩
            rw [← eM46]
            replace hw := hw _ eM46
            obtain ⟨y5_47, ey5_47⟩ : ∃ z, z = (x5 + (nI 1)) := ⟨_, rfl⟩
            replace hw := hw _ ey5_47
            refine gh_iinc (v := y5_47) (L' := [some (vR 32 0), some (vI x1), some (vI x2), some (vI x3), some (vI x4), some (vI y5_47), some (vI r21)]) dc_X7_comes_119 rfl ((congrArg (fun z => x5 + z) gc_1).trans ey5_47.symm) (by decide) rfl rfl ?_
            refine gh_goto (tgt := 20) dc_X7_comes_122 rfl ?_
            refine gh_drop (pc' := 0) [some (vR 32 0), some (vI x1), some (vI x2), some (vI x3), some (vI x4), some (vI y5_47), none] ⟨rfl, rfl, rfl, rfl, rfl, rfl, trivial⟩ ?_
            exact ih _ _ _ _ _ _ hw
theorem wk_X7_comes   (Q : Int32 → gh_M → Prop) (a0 : Int32) (a1 : Int32) (a2 : Int32) (M : gh_M) (hw : wp_X7_comes  a0 a1 a2 M Q) : gh_Calls 4 mi_X7_comes [vR 32 0, vI a0, vI a1, vI a2] M (gh_Qi Q) := by
  refine gh_of (by decide) rfl 3 rfl (L0 := [some (vR 32 0), some (vI a0), some (vI a1), some (vI a2), none, none, none]) rfl (fun wd x hE => ?_)
  unfold wp_X7_comes at hw
  refine gh_iload_n dc_X7_comes_0 rfl ?_
  refine gh_iload_n dc_X7_comes_1 rfl ?_
  refine gh_callSi (mi' := mi_X7_carAt) (as := [vI a0, vI a1]) (S := []) dc_X7_comes_2 ml_RX7_112 ok_X7_carAt rfl rfl (by decide) (Nat.le_of_ble_eq_true rfl) (wk_X7_carAt _ _ _ _ hw) (fun r1 M2 hw => ?_)
  refine gh_istore (L' := [some (vR 32 0), some (vI a0), some (vI a1), some (vI a2), some (vI r1), none, none]) dc_X7_comes_5 (by decide) rfl rfl ?_
  refine gh_aload_n dc_X7_comes_7 rfl ?_
  refine gh_getR (k := 32) (t := 0) dc_X7_comes_8 fl_RX7_7 (by decide) (by decide) rfl rfl ?_
  refine gh_iload dc_X7_comes_11 rfl ?_
  refine gh_iconst (v := (nI 3)) dc_X7_comes_13 gc_3 ?_
  refine gh_iadd dc_X7_comes_14 ?_
  refine gh_iload_n dc_X7_comes_15 rfl ?_
  obtain ⟨h3, hw⟩ := hw
  refine gh_iast (k := 33) (t := 0) dc_X7_comes_16 rfl (by decide) (by decide) h3 ?_
  obtain ⟨M4, eM4⟩ : ∃ z, z = (gh_st M2 33 0 (r1 + (nI 3)).toNatClampNeg a2) := ⟨_, rfl⟩
  rw [← eM4]
  replace hw := hw _ eM4
  refine gh_iconst (v := (nI 0)) dc_X7_comes_17 gc_0 ?_
  refine gh_istore (L' := [some (vR 32 0), some (vI a0), some (vI a1), some (vI a2), some (vI r1), some (vI (nI 0)), none]) dc_X7_comes_18 (by decide) rfl rfl ?_
  refine gh_drop (pc' := 0) [some (vR 32 0), some (vI a0), some (vI a1), some (vI a2), some (vI r1), some (vI (nI 0)), none] ⟨rfl, rfl, rfl, rfl, rfl, rfl, trivial⟩ ?_
  obtain ⟨k, hw⟩ := hw
  exact lk_X7_comes_20  hE  k _ _ _ _ _ _ hw
theorem lk_X7_goes_33 {wd : gh_Wd} {x : gh_X} {Q : gh_M → Prop}   (hE : gh_E wd (gh_Qv Q) x)   : ∀ (n : Nat) (x1 : Int32) (x2 : Int32) (x3 : Int32) (x4 : Int32) (M : gh_M), wl_X7_goes_33 Q n x1 x2 x3 x4 M → gh_J mi_X7_goes 5 wd x M 33 [some (vR 32 0), some (vI x1), some (vI x2), some (vI x3), some (vI x4), none] [] := by
  intro n
  induction n with
  | zero => intro x1 x2 x3 x4 M hw; exact hw.elim
  | succ n ih =>
    intro x1 x2 x3 x4 M hw
    unfold wl_X7_goes_33 at hw
    refine gh_iload dc_X7_goes_33 rfl ?_
    refine gh_aload_n dc_X7_goes_35 rfl ?_
    refine gh_getR (k := 32) (t := 0) dc_X7_goes_36 fl_RX7_7 (by decide) (by decide) rfl rfl ?_
    refine gh_iload_n dc_X7_goes_39 rfl ?_
    refine gh_iconst (v := (nI 2)) dc_X7_goes_40 gc_2 ?_
    refine gh_iadd dc_X7_goes_41 ?_
    obtain ⟨h5, hw⟩ := hw
    refine gh_iald (k := 33) (t := 0) dc_X7_goes_42 rfl (by decide) (by decide) h5 ?_
    refine gh_icmp_ge (tgt := 110) dc_X7_goes_43 rfl (fun c6 => ?_) (fun c6 => ?_)
    · replace hw := hw.1 c6
      exact gh_vret dc_X7_goes_110 hE rfl hw
    · replace hw := hw.2 c6
      refine gh_aload_n dc_X7_goes_46 rfl ?_
      refine gh_getR (k := 32) (t := 0) dc_X7_goes_47 fl_RX7_7 (by decide) (by decide) rfl rfl ?_
      refine gh_iload_n dc_X7_goes_50 rfl ?_
      refine gh_iconst (v := (nI 3)) dc_X7_goes_51 gc_3 ?_
      refine gh_iadd dc_X7_goes_52 ?_
      obtain ⟨h7, hw⟩ := hw
      refine gh_iald (k := 33) (t := 0) dc_X7_goes_53 rfl (by decide) (by decide) h7 ?_
      refine gh_iconst (v := (nI 1)) dc_X7_goes_54 gc_1 ?_
      refine gh_iadd dc_X7_goes_55 ?_
      obtain ⟨y5_8, ey5_8⟩ : ∃ z, z = ((M 33 0 (x3 + (nI 3)).toNatClampNeg) + (nI 1)) := ⟨_, rfl⟩
      rw [← ey5_8]
      replace hw := hw _ ey5_8
      refine gh_istore (L' := [some (vR 32 0), some (vI x1), some (vI x2), some (vI x3), some (vI x4), some (vI y5_8)]) dc_X7_goes_56 (by decide) rfl rfl ?_
      refine gh_iload dc_X7_goes_58 rfl ?_
      refine gh_aload_n dc_X7_goes_60 rfl ?_
      refine gh_getR (k := 32) (t := 0) dc_X7_goes_61 fl_RX7_7 (by decide) (by decide) rfl rfl ?_
      refine gh_iload_n dc_X7_goes_64 rfl ?_
      obtain ⟨h9, hw⟩ := hw
      refine gh_iald (k := 33) (t := 0) dc_X7_goes_65 rfl (by decide) (by decide) h9 ?_
      refine gh_icmp_ne (tgt := 80) dc_X7_goes_66 rfl (fun c10 => ?_) (fun c10 => ?_)
      · replace hw := hw.1 c10
        refine gh_aload_n dc_X7_goes_80 rfl ?_
        refine gh_iload_n dc_X7_goes_81 rfl ?_
        refine gh_iload dc_X7_goes_82 rfl ?_
        refine gh_callVi (mi' := mi_X7_carIn) (as := [vI x1, vI y5_8]) (S := []) (k := 32) (t := 0) dc_X7_goes_84 ml_RX7_146 ok_X7_carIn rfl rfl (by decide) (Nat.le_of_ble_eq_true rfl) (by decide) (by decide) rfl rfl (wk_X7_carIn _ _ _ _ hw) (fun r11 M12 hw => ?_)
        refine gh_ldc (v := (-1000000 : Int32)) dc_X7_goes_87 tw_1016 ?_
        refine gh_icmp_ne (tgt := 103) dc_X7_goes_89 rfl (fun c13 => ?_) (fun c13 => ?_)
        · replace hw := hw.1 c13
          exact gh_vret dc_X7_goes_103 hE rfl hw
        · replace hw := hw.2 c13
          refine gh_aload_n dc_X7_goes_92 rfl ?_
          refine gh_iload_n dc_X7_goes_93 rfl ?_
          refine gh_iload_n dc_X7_goes_94 rfl ?_
          refine gh_iload dc_X7_goes_95 rfl ?_
          refine gh_callVi (mi' := mi_X7_comes) (as := [vI x1, vI x2, vI y5_8]) (S := []) (k := 32) (t := 0) dc_X7_goes_97 ml_RX7_149 ok_X7_comes rfl rfl (by decide) (Nat.le_of_ble_eq_true rfl) (by decide) (by decide) rfl rfl (wk_X7_comes _ _ _ _ _ hw) (fun r14 M15 hw => ?_)
          refine gh_if_eq (tgt := 104) dc_X7_goes_100 rfl (fun c16 => ?_) (fun c16 => ?_)
          · replace hw := hw.1 c16
            obtain ⟨y4_17, ey4_17⟩ : ∃ z, z = (x4 + (nI 1)) := ⟨_, rfl⟩
            replace hw := hw _ ey4_17
            refine gh_iinc (v := y4_17) (L' := [some (vR 32 0), some (vI x1), some (vI x2), some (vI x3), some (vI y4_17), some (vI y5_8)]) dc_X7_goes_104 rfl ((congrArg (fun z => x4 + z) gc_1).trans ey4_17.symm) (by decide) rfl rfl ?_
            refine gh_goto (tgt := 33) dc_X7_goes_107 rfl ?_
            refine gh_drop (pc' := 0) [some (vR 32 0), some (vI x1), some (vI x2), some (vI x3), some (vI y4_17), none] ⟨rfl, rfl, rfl, rfl, rfl, trivial⟩ ?_
            exact ih _ _ _ _ _ hw
          · replace hw := hw.2 c16
            exact gh_vret dc_X7_goes_103 hE rfl hw
      · replace hw := hw.2 c10
        refine gh_aload_n dc_X7_goes_69 rfl ?_
        refine gh_getR (k := 32) (t := 0) dc_X7_goes_70 fl_RX7_7 (by decide) (by decide) rfl rfl ?_
        refine gh_iload_n dc_X7_goes_73 rfl ?_
        refine gh_iconst (v := (nI 3)) dc_X7_goes_74 gc_3 ?_
        refine gh_iadd dc_X7_goes_75 ?_
        refine gh_bipush (v := (nI 21)) dc_X7_goes_76 gb_21 ?_
        obtain ⟨h18, hw⟩ := hw
        refine gh_iast (k := 33) (t := 0) dc_X7_goes_78 rfl (by decide) (by decide) h18 ?_
        obtain ⟨M19, eM19⟩ : ∃ z, z = (gh_st M 33 0 (x3 + (nI 3)).toNatClampNeg (nI 21)) := ⟨_, rfl⟩
        rw [← eM19]
        replace hw := hw _ eM19
        exact gh_vret dc_X7_goes_79 hE rfl hw
theorem wk_X7_goes   (Q : gh_M → Prop) (a0 : Int32) (a1 : Int32) (M : gh_M) (hw : wp_X7_goes  a0 a1 M Q) : gh_Calls 5 mi_X7_goes [vR 32 0, vI a0, vI a1] M (gh_Qv Q) := by
  refine gh_of (by decide) rfl 3 rfl (L0 := [some (vR 32 0), some (vI a0), some (vI a1), none, none, none]) rfl (fun wd x hE => ?_)
  unfold wp_X7_goes at hw
  refine gh_iload_n dc_X7_goes_0 rfl ?_
  refine gh_iload_n dc_X7_goes_1 rfl ?_
  refine gh_callSi (mi' := mi_X7_carAt) (as := [vI a0, vI a1]) (S := []) dc_X7_goes_2 ml_RX7_112 ok_X7_carAt rfl rfl (by decide) (Nat.le_of_ble_eq_true rfl) (wk_X7_carAt _ _ _ _ hw) (fun r1 M2 hw => ?_)
  refine gh_istore_n (L' := [some (vR 32 0), some (vI a0), some (vI a1), some (vI r1), none, none]) dc_X7_goes_5 (by decide) rfl rfl ?_
  refine gh_aload_n dc_X7_goes_6 rfl ?_
  refine gh_getR (k := 32) (t := 0) dc_X7_goes_7 fl_RX7_7 (by decide) (by decide) rfl rfl ?_
  refine gh_iload_n dc_X7_goes_10 rfl ?_
  refine gh_bipush (v := (nI 6)) dc_X7_goes_11 gb_6 ?_
  refine gh_iadd dc_X7_goes_13 ?_
  obtain ⟨h3, hw⟩ := hw
  refine gh_iald (k := 33) (t := 0) dc_X7_goes_14 rfl (by decide) (by decide) h3 ?_
  refine gh_iconst (v := (nI 1)) dc_X7_goes_15 gc_1 ?_
  refine gh_icmp_ne (tgt := 30) dc_X7_goes_16 rfl (fun c4 => ?_) (fun c4 => ?_)
  · replace hw := hw.1 c4
    refine gh_iconst (v := (nI 0)) dc_X7_goes_30 gc_0 ?_
    refine gh_istore (L' := [some (vR 32 0), some (vI a0), some (vI a1), some (vI r1), some (vI (nI 0)), none]) dc_X7_goes_31 (by decide) rfl rfl ?_
    refine gh_drop (pc' := 0) [some (vR 32 0), some (vI a0), some (vI a1), some (vI r1), some (vI (nI 0)), none] ⟨rfl, rfl, rfl, rfl, rfl, trivial⟩ ?_
    obtain ⟨k, hw⟩ := hw
    exact lk_X7_goes_33  hE  k _ _ _ _ _ hw
  · replace hw := hw.2 c4
    refine gh_aload_n dc_X7_goes_19 rfl ?_
    refine gh_getR (k := 32) (t := 0) dc_X7_goes_20 fl_RX7_7 (by decide) (by decide) rfl rfl ?_
    refine gh_iload_n dc_X7_goes_23 rfl ?_
    refine gh_bipush (v := (nI 6)) dc_X7_goes_24 gb_6 ?_
    refine gh_iadd dc_X7_goes_26 ?_
    refine gh_iconst (v := (nI 0)) dc_X7_goes_27 gc_0 ?_
    obtain ⟨h20, hw⟩ := hw
    refine gh_iast (k := 33) (t := 0) dc_X7_goes_28 rfl (by decide) (by decide) h20 ?_
    obtain ⟨M21, eM21⟩ : ∃ z, z = (gh_st M2 33 0 (r1 + (nI 6)).toNatClampNeg (nI 0)) := ⟨_, rfl⟩
    rw [← eM21]
    replace hw := hw _ eM21
    exact gh_vret dc_X7_goes_29 hE rfl hw
theorem lk_X7_tickAt_40 {wd : gh_Wd} {x : gh_X} {Q : gh_M → Prop}   (hE : gh_E wd (gh_Qv Q) x)   : ∀ (n : Nat) (x1 : Int32) (x2 : Int32) (M : gh_M), wl_X7_tickAt_40 Q n x1 x2 M → gh_J mi_X7_tickAt 6 wd x M 40 [some (vR 32 0), some (vI x1), some (vI x2), none, none] [] := by
  intro n
  induction n with
  | zero => intro x1 x2 M hw; exact hw.elim
  | succ n ih =>
    intro x1 x2 M hw
    unfold wl_X7_tickAt_40 at hw
    refine gh_iload_n dc_X7_tickAt_40 rfl ?_
    refine gh_aload_n dc_X7_tickAt_41 rfl ?_
    refine gh_getR (k := 32) (t := 0) dc_X7_tickAt_42 fl_RX7_7 (by decide) (by decide) rfl rfl ?_
    refine gh_iload_n dc_X7_tickAt_45 rfl ?_
    refine gh_iconst (v := (nI 2)) dc_X7_tickAt_46 gc_2 ?_
    refine gh_iadd dc_X7_tickAt_47 ?_
    obtain ⟨h4, hw⟩ := hw
    refine gh_iald (k := 33) (t := 0) dc_X7_tickAt_48 rfl (by decide) (by decide) h4 ?_
    refine gh_icmp_ge (tgt := 102) dc_X7_tickAt_49 rfl (fun c5 => ?_) (fun c5 => ?_)
    · replace hw := hw.1 c5
      refine gh_aload_n dc_X7_tickAt_102 rfl ?_
      refine gh_getR (k := 32) (t := 0) dc_X7_tickAt_103 fl_RX7_7 (by decide) (by decide) rfl rfl ?_
      refine gh_iload_n dc_X7_tickAt_106 rfl ?_
      refine gh_iconst (v := (nI 3)) dc_X7_tickAt_107 gc_3 ?_
      refine gh_iadd dc_X7_tickAt_108 ?_
      refine gh_dup2 dc_X7_tickAt_109 ?_
      obtain ⟨h6, hw⟩ := hw
      refine gh_iald (k := 33) (t := 0) dc_X7_tickAt_110 rfl (by decide) (by decide) h6 ?_
      refine gh_iconst (v := (nI 1)) dc_X7_tickAt_111 gc_1 ?_
      refine gh_iadd dc_X7_tickAt_112 ?_
      obtain ⟨h7, hw⟩ := hw
      refine gh_iast (k := 33) (t := 0) dc_X7_tickAt_113 rfl (by decide) (by decide) h7 ?_
      obtain ⟨M8, eM8⟩ : ∃ z, z = (gh_st M 33 0 (x1 + (nI 3)).toNatClampNeg ((M 33 0 (x1 + (nI 3)).toNatClampNeg) + (nI 1))) := ⟨_, rfl⟩
      rw [← eM8]
      replace hw := hw _ eM8
      exact gh_vret dc_X7_tickAt_114 hE rfl hw
    · replace hw := hw.2 c5
      refine gh_aload_n dc_X7_tickAt_52 rfl ?_
      refine gh_iload_n dc_X7_tickAt_53 rfl ?_
      refine gh_iconst (v := (nI 0)) dc_X7_tickAt_54 gc_0 ?_
      refine gh_callVi (mi' := mi_X7_carIn) (as := [vI x1, vI (nI 0)]) (S := []) (k := 32) (t := 0) dc_X7_tickAt_55 ml_RX7_146 ok_X7_carIn rfl rfl (by decide) (Nat.le_of_ble_eq_true rfl) (by decide) (by decide) rfl rfl (wk_X7_carIn _ _ _ _ hw) (fun r9 M10 hw => ?_)
      refine gh_ldc (v := (-1000000 : Int32)) dc_X7_tickAt_58 tw_1016 ?_
      refine gh_icmp_ne (tgt := 102) dc_X7_tickAt_60 rfl (fun c11 => ?_) (fun c11 => ?_)
      · replace hw := hw.1 c11
        refine gh_aload_n dc_X7_tickAt_102 rfl ?_
        refine gh_getR (k := 32) (t := 0) dc_X7_tickAt_103 fl_RX7_7 (by decide) (by decide) rfl rfl ?_
        refine gh_iload_n dc_X7_tickAt_106 rfl ?_
        refine gh_iconst (v := (nI 3)) dc_X7_tickAt_107 gc_3 ?_
        refine gh_iadd dc_X7_tickAt_108 ?_
        refine gh_dup2 dc_X7_tickAt_109 ?_
        obtain ⟨h12, hw⟩ := hw
        refine gh_iald (k := 33) (t := 0) dc_X7_tickAt_110 rfl (by decide) (by decide) h12 ?_
        refine gh_iconst (v := (nI 1)) dc_X7_tickAt_111 gc_1 ?_
        refine gh_iadd dc_X7_tickAt_112 ?_
        obtain ⟨h13, hw⟩ := hw
        refine gh_iast (k := 33) (t := 0) dc_X7_tickAt_113 rfl (by decide) (by decide) h13 ?_
        obtain ⟨M14, eM14⟩ : ∃ z, z = (gh_st M10 33 0 (x1 + (nI 3)).toNatClampNeg ((M10 33 0 (x1 + (nI 3)).toNatClampNeg) + (nI 1))) := ⟨_, rfl⟩
        rw [← eM14]
        replace hw := hw _ eM14
        exact gh_vret dc_X7_tickAt_114 hE rfl hw
      · replace hw := hw.2 c11
        refine gh_aload_n dc_X7_tickAt_63 rfl ?_
        refine gh_getR (k := 32) (t := 0) dc_X7_tickAt_64 fl_RX7_13 (by decide) (by decide) rfl rfl ?_
        refine gh_iload_n dc_X7_tickAt_67 rfl ?_
        obtain ⟨h15, hw⟩ := hw
        refine gh_iald (k := 34) (t := 0) dc_X7_tickAt_68 rfl (by decide) (by decide) h15 ?_
        obtain ⟨y3_16, ey3_16⟩ : ∃ z, z = (M10 34 0 x2.toNatClampNeg) := ⟨_, rfl⟩
        rw [← ey3_16]
        replace hw := hw _ ey3_16
        refine gh_istore_n (L' := [some (vR 32 0), some (vI x1), some (vI x2), some (vI y3_16), none]) dc_X7_tickAt_69 (by decide) rfl rfl ?_
        refine gh_aload_n dc_X7_tickAt_70 rfl ?_
        refine gh_getR (k := 32) (t := 0) dc_X7_tickAt_71 fl_RX7_7 (by decide) (by decide) rfl rfl ?_
        refine gh_iload_n dc_X7_tickAt_74 rfl ?_
        refine gh_iload_n dc_X7_tickAt_75 rfl ?_
        refine gh_callSi (mi' := mi_X7_carAt) (as := [vI x1, vI y3_16]) (S := [vR 33 0]) dc_X7_tickAt_76 ml_RX7_112 ok_X7_carAt rfl rfl (by decide) (Nat.le_of_ble_eq_true rfl) (wk_X7_carAt _ _ _ _ hw) (fun r17 M18 hw => ?_)
        refine gh_iconst (v := (nI 3)) dc_X7_tickAt_79 gc_3 ?_
        refine gh_iadd dc_X7_tickAt_80 ?_
        obtain ⟨h19, hw⟩ := hw
        refine gh_iald (k := 33) (t := 0) dc_X7_tickAt_81 rfl (by decide) (by decide) h19 ?_
        refine gh_bipush (v := (nI 20)) dc_X7_tickAt_82 gb_20 ?_
        refine gh_icmp_ne (tgt := 96) dc_X7_tickAt_84 rfl (fun c20 => ?_) (fun c20 => ?_)
        · replace hw := hw.1 c20
          obtain ⟨y2_21, ey2_21⟩ : ∃ z, z = (x2 + (nI 1)) := ⟨_, rfl⟩
          replace hw := hw _ ey2_21
          refine gh_iinc (v := y2_21) (L' := [some (vR 32 0), some (vI x1), some (vI y2_21), some (vI y3_16), none]) dc_X7_tickAt_96 rfl ((congrArg (fun z => x2 + z) gc_1).trans ey2_21.symm) (by decide) rfl rfl ?_
          refine gh_goto (tgt := 40) dc_X7_tickAt_99 rfl ?_
          refine gh_drop (pc' := 0) [some (vR 32 0), some (vI x1), some (vI y2_21), none, none] ⟨rfl, rfl, rfl, trivial⟩ ?_
          exact ih _ _ _ hw
        · replace hw := hw.2 c20
          refine gh_aload_n dc_X7_tickAt_87 rfl ?_
          refine gh_iload_n dc_X7_tickAt_88 rfl ?_
          refine gh_iload_n dc_X7_tickAt_89 rfl ?_
          refine gh_iconst (v := (nI 0)) dc_X7_tickAt_90 gc_0 ?_
          refine gh_callVi (mi' := mi_X7_comes) (as := [vI x1, vI y3_16, vI (nI 0)]) (S := []) (k := 32) (t := 0) dc_X7_tickAt_91 ml_RX7_149 ok_X7_comes rfl rfl (by decide) (Nat.le_of_ble_eq_true rfl) (by decide) (by decide) rfl rfl (wk_X7_comes _ _ _ _ _ hw) (fun r22 M23 hw => ?_)
          refine gh_istore (L' := [some (vR 32 0), some (vI x1), some (vI x2), some (vI y3_16), some (vI r22)]) dc_X7_tickAt_94 (by decide) rfl rfl ?_
          obtain ⟨y2_24, ey2_24⟩ : ∃ z, z = (x2 + (nI 1)) := ⟨_, rfl⟩
          replace hw := hw _ ey2_24
          refine gh_iinc (v := y2_24) (L' := [some (vR 32 0), some (vI x1), some (vI y2_24), some (vI y3_16), some (vI r22)]) dc_X7_tickAt_96 rfl ((congrArg (fun z => x2 + z) gc_1).trans ey2_24.symm) (by decide) rfl rfl ?_
          refine gh_goto (tgt := 40) dc_X7_tickAt_99 rfl ?_
          refine gh_drop (pc' := 0) [some (vR 32 0), some (vI x1), some (vI y2_24), none, none] ⟨rfl, rfl, rfl, trivial⟩ ?_
          exact ih _ _ _ hw
theorem lk_X7_tickAt_9 {wd : gh_Wd} {x : gh_X} {Q : gh_M → Prop}   (hE : gh_E wd (gh_Qv Q) x)   : ∀ (n : Nat) (x1 : Int32) (x2 : Int32) (M : gh_M), wl_X7_tickAt_9 Q n x1 x2 M → gh_J mi_X7_tickAt 6 wd x M 9 [some (vR 32 0), some (vI x1), some (vI x2), none, none] [] := by
  intro n
  induction n with
  | zero => intro x1 x2 M hw; exact hw.elim
  | succ n ih =>
    intro x1 x2 M hw
    unfold wl_X7_tickAt_9 at hw
    refine gh_iload_n dc_X7_tickAt_9 rfl ?_
    refine gh_if_lt (tgt := 38) dc_X7_tickAt_10 rfl (fun c3 => ?_) (fun c3 => ?_)
    · replace hw := hw.1 c3
      refine gh_iconst (v := (nI 0)) dc_X7_tickAt_38 gc_0 ?_
      refine gh_istore_n (L' := [some (vR 32 0), some (vI x1), some (vI (nI 0)), none, none]) dc_X7_tickAt_39 (by decide) rfl rfl ?_
      refine gh_drop (pc' := 0) [some (vR 32 0), some (vI x1), some (vI (nI 0)), none, none] ⟨rfl, rfl, rfl, trivial⟩ ?_
      obtain ⟨k, hw⟩ := hw
      exact lk_X7_tickAt_40  hE  k _ _ _ hw
    · replace hw := hw.2 c3
      refine gh_aload_n dc_X7_tickAt_13 rfl ?_
      refine gh_iload_n dc_X7_tickAt_14 rfl ?_
      refine gh_iload_n dc_X7_tickAt_15 rfl ?_
      refine gh_callVi (mi' := mi_X7_carIn) (as := [vI x1, vI x2]) (S := []) (k := 32) (t := 0) dc_X7_tickAt_16 ml_RX7_146 ok_X7_carIn rfl rfl (by decide) (Nat.le_of_ble_eq_true rfl) (by decide) (by decide) rfl rfl (wk_X7_carIn _ _ _ _ hw) (fun r25 M26 hw => ?_)
      refine gh_istore_n (L' := [some (vR 32 0), some (vI x1), some (vI x2), some (vI r25), none]) dc_X7_tickAt_19 (by decide) rfl rfl ?_
      refine gh_iload_n dc_X7_tickAt_20 rfl ?_
      refine gh_ldc (v := (-1000000 : Int32)) dc_X7_tickAt_21 tw_1016 ?_
      refine gh_icmp_eq (tgt := 32) dc_X7_tickAt_23 rfl (fun c27 => ?_) (fun c27 => ?_)
      · replace hw := hw.1 c27
        obtain ⟨y2_28, ey2_28⟩ : ∃ z, z = (x2 + (-1 : Int32)) := ⟨_, rfl⟩
        replace hw := hw _ ey2_28
        refine gh_iinc (v := y2_28) (L' := [some (vR 32 0), some (vI x1), some (vI y2_28), some (vI r25), none]) dc_X7_tickAt_32 rfl ((congrArg (fun z => x2 + z) gc_m1).trans ey2_28.symm) (by decide) rfl rfl ?_
        refine gh_goto (tgt := 9) dc_X7_tickAt_35 rfl ?_
        refine gh_drop (pc' := 0) [some (vR 32 0), some (vI x1), some (vI y2_28), none, none] ⟨rfl, rfl, rfl, trivial⟩ ?_
        exact ih _ _ _ hw
      · replace hw := hw.2 c27
        refine gh_aload_n dc_X7_tickAt_26 rfl ?_
        refine gh_iload_n dc_X7_tickAt_27 rfl ?_
        refine gh_iload_n dc_X7_tickAt_28 rfl ?_
        refine gh_callVv (mi' := mi_X7_goes) (as := [vI x1, vI r25]) (S := []) (k := 32) (t := 0) dc_X7_tickAt_29 ml_RX7_152 ok_X7_goes rfl rfl (by decide) (Nat.le_of_ble_eq_true rfl) (by decide) (by decide) rfl rfl (wk_X7_goes _ _ _ _ hw) (fun M30 hw => ?_)
        obtain ⟨y2_31, ey2_31⟩ : ∃ z, z = (x2 + (-1 : Int32)) := ⟨_, rfl⟩
        replace hw := hw _ ey2_31
        refine gh_iinc (v := y2_31) (L' := [some (vR 32 0), some (vI x1), some (vI y2_31), some (vI r25), none]) dc_X7_tickAt_32 rfl ((congrArg (fun z => x2 + z) gc_m1).trans ey2_31.symm) (by decide) rfl rfl ?_
        refine gh_goto (tgt := 9) dc_X7_tickAt_35 rfl ?_
        refine gh_drop (pc' := 0) [some (vR 32 0), some (vI x1), some (vI y2_31), none, none] ⟨rfl, rfl, rfl, trivial⟩ ?_
        exact ih _ _ _ hw
theorem wk_X7_tickAt   (Q : gh_M → Prop) (a0 : Int32) (M : gh_M) (hw : wp_X7_tickAt  a0 M Q) : gh_Calls 6 mi_X7_tickAt [vR 32 0, vI a0] M (gh_Qv Q) := by
  refine gh_of (by decide) rfl 3 rfl (L0 := [some (vR 32 0), some (vI a0), none, none, none]) rfl (fun wd x hE => ?_)
  unfold wp_X7_tickAt at hw
  refine gh_aload_n dc_X7_tickAt_0 rfl ?_
  refine gh_getR (k := 32) (t := 0) dc_X7_tickAt_1 fl_RX7_7 (by decide) (by decide) rfl rfl ?_
  refine gh_iload_n dc_X7_tickAt_4 rfl ?_
  obtain ⟨h1, hw⟩ := hw
  refine gh_iald (k := 33) (t := 0) dc_X7_tickAt_5 rfl (by decide) (by decide) h1 ?_
  refine gh_iconst (v := (nI 1)) dc_X7_tickAt_6 gc_1 ?_
  refine gh_isub dc_X7_tickAt_7 ?_
  obtain ⟨y2_2, ey2_2⟩ : ∃ z, z = ((M 33 0 a0.toNatClampNeg) - (nI 1)) := ⟨_, rfl⟩
  rw [← ey2_2]
  replace hw := hw _ ey2_2
  refine gh_istore_n (L' := [some (vR 32 0), some (vI a0), some (vI y2_2), none, none]) dc_X7_tickAt_8 (by decide) rfl rfl ?_
  refine gh_drop (pc' := 0) [some (vR 32 0), some (vI a0), some (vI y2_2), none, none] ⟨rfl, rfl, rfl, trivial⟩ ?_
  obtain ⟨k, hw⟩ := hw
  exact lk_X7_tickAt_9  hE  k _ _ _ hw
theorem lk_X7_ticks_46 {wd : gh_Wd} {x : gh_X} {Q : Int32 → gh_M → Prop}   (hE : gh_E wd (gh_Qi Q) x)   : ∀ (n : Nat) (x1 : Int32) (x2 : Int32) (M : gh_M), wl_X7_ticks_46 Q n x1 x2 M → gh_J mi_X7_ticks 7 wd x M 46 [some (vR 32 0), some (vI x1), some (vI x2)] [] := by
  intro n
  induction n with
  | zero => intro x1 x2 M hw; exact hw.elim
  | succ n ih =>
    intro x1 x2 M hw
    unfold wl_X7_ticks_46 at hw
    refine gh_iload_n dc_X7_ticks_46 rfl ?_
    refine gh_iload_n dc_X7_ticks_47 rfl ?_
    refine gh_icmp_ge (tgt := 66) dc_X7_ticks_48 rfl (fun c11 => ?_) (fun c11 => ?_)
    · replace hw := hw.1 c11
      refine gh_aload_n dc_X7_ticks_66 rfl ?_
      refine gh_iconst (v := (nI 0)) dc_X7_ticks_67 gc_0 ?_
      refine gh_iconst (v := (nI 3)) dc_X7_ticks_68 gc_3 ?_
      refine gh_callVi (mi' := mi_X7_carsThat) (as := [vI (nI 0), vI (nI 3)]) (S := []) (k := 32) (t := 0) dc_X7_ticks_69 ml_RX7_171 ok_X7_carsThat rfl rfl (by decide) (Nat.le_of_ble_eq_true rfl) (by decide) (by decide) rfl rfl (wk_X7_carsThat _ _ _ _ hw) (fun r12 M13 hw => ?_)
      exact gh_iret dc_X7_ticks_72 hE rfl hw
    · replace hw := hw.2 c11
      refine gh_aload_n dc_X7_ticks_51 rfl ?_
      refine gh_callVv (mi' := mi_X7_remember) (as := []) (S := []) (k := 32) (t := 0) dc_X7_ticks_52 ml_RX7_168 ok_X7_remember rfl rfl (by decide) (Nat.le_of_ble_eq_true rfl) (by decide) (by decide) rfl rfl (wk_X7_remember _ _ hw) (fun M15 hw => ?_)
      refine gh_aload_n dc_X7_ticks_55 rfl ?_
      refine gh_iconst (v := (nI 0)) dc_X7_ticks_56 gc_0 ?_
      refine gh_callVv (mi' := mi_X7_tickAt) (as := [vI (nI 0)]) (S := []) (k := 32) (t := 0) dc_X7_ticks_57 ml_RX7_161 ok_X7_tickAt rfl rfl (by decide) (Nat.le_of_ble_eq_true rfl) (by decide) (by decide) rfl rfl (wk_X7_tickAt _ _ _ hw) (fun M17 hw => ?_)
      obtain ⟨y2_18, ey2_18⟩ : ∃ z, z = (x2 + (nI 1)) := ⟨_, rfl⟩
      replace hw := hw _ ey2_18
      refine gh_iinc (v := y2_18) (L' := [some (vR 32 0), some (vI x1), some (vI y2_18)]) dc_X7_ticks_60 rfl ((congrArg (fun z => x2 + z) gc_1).trans ey2_18.symm) (by decide) rfl rfl ?_
      refine gh_goto (tgt := 46) dc_X7_ticks_63 rfl ?_
      refine gh_drop (pc' := 0) [some (vR 32 0), some (vI x1), some (vI y2_18)] ⟨rfl, rfl, rfl, trivial⟩ ?_
      exact ih _ _ _ hw
theorem wk_X7_ticks   (Q : Int32 → gh_M → Prop) (a0 : Int32) (M : gh_M) (hw : wp_X7_ticks  a0 M Q) : gh_Calls 7 mi_X7_ticks [vR 32 0, vI a0] M (gh_Qi Q) := by
  refine gh_of (by decide) rfl 1 rfl (L0 := [some (vR 32 0), some (vI a0), none]) rfl (fun wd x hE => ?_)
  unfold wp_X7_ticks at hw
  refine gh_aload_n dc_X7_ticks_0 rfl ?_
  refine gh_callVi (mi' := mi_X7_isTrain) (as := []) (S := []) (k := 32) (t := 0) dc_X7_ticks_1 ml_RX7_165 ok_X7_isTrain rfl rfl (by decide) (Nat.le_of_ble_eq_true rfl) (by decide) (by decide) rfl rfl (wk_X7_isTrain _ _ hw) (fun r1 M2 hw => ?_)
  refine gh_if_ne (tgt := 10) dc_X7_ticks_4 rfl (fun c3 => ?_) (fun c3 => ?_)
  · replace hw := hw.1 c3
    refine gh_iload_n dc_X7_ticks_10 rfl ?_
    refine gh_iconst (v := (nI 1)) dc_X7_ticks_11 gc_1 ?_
    refine gh_bipush (v := (nI 24)) dc_X7_ticks_12 gb_24 ?_
    refine gh_callSi (mi' := mi_X7_in) (as := [vI a0, vI (nI 1), vI (nI 24)]) (S := []) dc_X7_ticks_14 ml_RX7_51 ok_X7_in rfl rfl (by decide) (Nat.le_of_ble_eq_true rfl) (wk_X7_in _ _ _ _ _ hw) (fun r4 M5 hw => ?_)
    refine gh_if_ne (tgt := 23) dc_X7_ticks_17 rfl (fun c6 => ?_) (fun c6 => ?_)
    · replace hw := hw.1 c6
      refine gh_aload_n dc_X7_ticks_23 rfl ?_
      refine gh_getR (k := 32) (t := 0) dc_X7_ticks_24 fl_RX7_7 (by decide) (by decide) rfl rfl ?_
      refine gh_iconst (v := (nI 3)) dc_X7_ticks_27 gc_3 ?_
      obtain ⟨h7, hw⟩ := hw
      refine gh_iald (k := 33) (t := 0) dc_X7_ticks_28 rfl (by decide) (by decide) h7 ?_
      refine gh_iload_n dc_X7_ticks_29 rfl ?_
      refine gh_iadd dc_X7_ticks_30 ?_
      refine gh_sipush (v := (nI 999)) dc_X7_ticks_31 gs_999 ?_
      refine gh_icmp_le (tgt := 40) dc_X7_ticks_34 rfl (fun c8 => ?_) (fun c8 => ?_)
      · replace hw := hw.1 c8
        refine gh_aload_n dc_X7_ticks_40 rfl ?_
        refine gh_callVv (mi' := mi_X7_rankByNumbers) (as := []) (S := []) (k := 32) (t := 0) dc_X7_ticks_41 ml_RX7_155 ok_X7_rankByNumbers rfl rfl (by decide) (Nat.le_of_ble_eq_true rfl) (by decide) (by decide) rfl rfl (wk_X7_rankByNumbers _ _ hw) (fun M10 hw => ?_)
        refine gh_iconst (v := (nI 0)) dc_X7_ticks_44 gc_0 ?_
        refine gh_istore_n (L' := [some (vR 32 0), some (vI a0), some (vI (nI 0))]) dc_X7_ticks_45 (by decide) rfl rfl ?_
        refine gh_drop (pc' := 0) [some (vR 32 0), some (vI a0), some (vI (nI 0))] ⟨rfl, rfl, rfl, trivial⟩ ?_
        obtain ⟨k, hw⟩ := hw
        exact lk_X7_ticks_46  hE  k _ _ _ hw
      · replace hw := hw.2 c8
        refine gh_ldc (v := (-1000003 : Int32)) dc_X7_ticks_37 tw_928 ?_
        exact gh_iret dc_X7_ticks_39 hE rfl hw
    · replace hw := hw.2 c6
      refine gh_ldc (v := (-1000001 : Int32)) dc_X7_ticks_20 tw_898 ?_
      exact gh_iret dc_X7_ticks_22 hE rfl hw
  · replace hw := hw.2 c3
    refine gh_ldc (v := (-1000002 : Int32)) dc_X7_ticks_7 tw_991 ?_
    exact gh_iret dc_X7_ticks_9 hE rfl hw
theorem wk_X7_isTrick   (Q : Int32 → gh_M → Prop) (a0 : Int32) (M : gh_M) (hw : wp_X7_isTrick  a0 M Q) : gh_Calls 2 mi_X7_isTrick [vR 32 0, vI a0] M (gh_Qi Q) := by
  refine gh_of (by decide) rfl 0 rfl (L0 := [some (vR 32 0), some (vI a0)]) rfl (fun wd x hE => ?_)
  unfold wp_X7_isTrick at hw
  refine gh_iload_n dc_X7_isTrick_0 rfl ?_
  refine gh_iconst (v := (nI 0)) dc_X7_isTrick_1 gc_0 ?_
  refine gh_aload_n dc_X7_isTrick_2 rfl ?_
  refine gh_getR (k := 32) (t := 0) dc_X7_isTrick_3 fl_RX7_7 (by decide) (by decide) rfl rfl ?_
  refine gh_iconst (v := (nI 1)) dc_X7_isTrick_6 gc_1 ?_
  obtain ⟨h1, hw⟩ := hw
  refine gh_iald (k := 33) (t := 0) dc_X7_isTrick_7 rfl (by decide) (by decide) h1 ?_
  refine gh_iconst (v := (nI 1)) dc_X7_isTrick_8 gc_1 ?_
  refine gh_isub dc_X7_isTrick_9 ?_
  refine gh_callSi (mi' := mi_X7_in) (as := [vI a0, vI (nI 0), vI ((M 33 0 (nI 1).toNatClampNeg) - (nI 1))]) (S := []) dc_X7_isTrick_10 ml_RX7_51 ok_X7_in rfl rfl (by decide) (Nat.le_of_ble_eq_true rfl) (wk_X7_in _ _ _ _ _ hw) (fun r2 M3 hw => ?_)
  exact gh_zret dc_X7_isTrick_13 hE rfl hw.1 hw.2
theorem wk_X7_isCell   (Q : Int32 → gh_M → Prop) (a0 : Int32) (M : gh_M) (hw : wp_X7_isCell  a0 M Q) : gh_Calls 2 mi_X7_isCell [vR 32 0, vI a0] M (gh_Qi Q) := by
  refine gh_of (by decide) rfl 0 rfl (L0 := [some (vR 32 0), some (vI a0)]) rfl (fun wd x hE => ?_)
  unfold wp_X7_isCell at hw
  refine gh_iload_n dc_X7_isCell_0 rfl ?_
  refine gh_iconst (v := (nI 0)) dc_X7_isCell_1 gc_0 ?_
  refine gh_aload_n dc_X7_isCell_2 rfl ?_
  refine gh_getR (k := 32) (t := 0) dc_X7_isCell_3 fl_RX7_7 (by decide) (by decide) rfl rfl ?_
  refine gh_iconst (v := (nI 0)) dc_X7_isCell_6 gc_0 ?_
  obtain ⟨h1, hw⟩ := hw
  refine gh_iald (k := 33) (t := 0) dc_X7_isCell_7 rfl (by decide) (by decide) h1 ?_
  refine gh_iconst (v := (nI 1)) dc_X7_isCell_8 gc_1 ?_
  refine gh_isub dc_X7_isCell_9 ?_
  refine gh_callSi (mi' := mi_X7_in) (as := [vI a0, vI (nI 0), vI ((M 33 0 (nI 0).toNatClampNeg) - (nI 1))]) (S := []) dc_X7_isCell_10 ml_RX7_51 ok_X7_in rfl rfl (by decide) (Nat.le_of_ble_eq_true rfl) (wk_X7_in _ _ _ _ _ hw) (fun r2 M3 hw => ?_)
  exact gh_zret dc_X7_isCell_13 hE rfl hw.1 hw.2
theorem wk_X7_place   (Q : Int32 → gh_M → Prop) (a0 : Int32) (a1 : Int32) (M : gh_M) (hw : wp_X7_place  a0 a1 M Q) : gh_Calls 3 mi_X7_place [vR 32 0, vI a0, vI a1] M (gh_Qi Q) := by
  refine gh_of (by decide) rfl 1 rfl (L0 := [some (vR 32 0), some (vI a0), some (vI a1), none]) rfl (fun wd x hE => ?_)
  unfold wp_X7_place at hw
  refine gh_aload_n dc_X7_place_0 rfl ?_
  refine gh_iload_n dc_X7_place_1 rfl ?_
  refine gh_callVi (mi' := mi_X7_isTrick) (as := [vI a0]) (S := []) (k := 32) (t := 0) dc_X7_place_2 ml_RX7_174 ok_X7_isTrick rfl rfl (by decide) (Nat.le_of_ble_eq_true rfl) (by decide) (by decide) rfl rfl (wk_X7_isTrick _ _ _ hw) (fun r1 M2 hw => ?_)
  refine gh_if_eq (tgt := 16) dc_X7_place_5 rfl (fun c3 => ?_) (fun c3 => ?_)
  · replace hw := hw.1 c3
    refine gh_ldc (v := (-1000001 : Int32)) dc_X7_place_16 tw_898 ?_
    exact gh_iret dc_X7_place_18 hE rfl hw
  · replace hw := hw.2 c3
    refine gh_aload_n dc_X7_place_8 rfl ?_
    refine gh_iload_n dc_X7_place_9 rfl ?_
    refine gh_callVi (mi' := mi_X7_isCell) (as := [vI a1]) (S := []) (k := 32) (t := 0) dc_X7_place_10 ml_RX7_177 ok_X7_isCell rfl rfl (by decide) (Nat.le_of_ble_eq_true rfl) (by decide) (by decide) rfl rfl (wk_X7_isCell _ _ _ hw) (fun r4 M5 hw => ?_)
    refine gh_if_ne (tgt := 19) dc_X7_place_13 rfl (fun c6 => ?_) (fun c6 => ?_)
    · replace hw := hw.1 c6
      refine gh_aload_n dc_X7_place_19 rfl ?_
      refine gh_getR (k := 32) (t := 0) dc_X7_place_20 fl_RX7_7 (by decide) (by decide) rfl rfl ?_
      refine gh_iconst (v := (nI 0)) dc_X7_place_23 gc_0 ?_
      refine gh_iload_n dc_X7_place_24 rfl ?_
      refine gh_callSi (mi' := mi_X7_trickAt) (as := [vI (nI 0), vI a0]) (S := [vR 33 0]) dc_X7_place_25 ml_RX7_98 ok_X7_trickAt rfl rfl (by decide) (Nat.le_of_ble_eq_true rfl) (wk_X7_trickAt _ _ _ _ hw) (fun r7 M8 hw => ?_)
      refine gh_iconst (v := (nI 1)) dc_X7_place_28 gc_1 ?_
      refine gh_iadd dc_X7_place_29 ?_
      obtain ⟨h9, hw⟩ := hw
      refine gh_iald (k := 33) (t := 0) dc_X7_place_30 rfl (by decide) (by decide) h9 ?_
      obtain ⟨y3_10, ey3_10⟩ : ∃ z, z = (M8 33 0 (r7 + (nI 1)).toNatClampNeg) := ⟨_, rfl⟩
      rw [← ey3_10]
      replace hw := hw _ ey3_10
      refine gh_istore_n (L' := [some (vR 32 0), some (vI a0), some (vI a1), some (vI y3_10)]) dc_X7_place_31 (by decide) rfl rfl ?_
      refine gh_iload_n dc_X7_place_32 rfl ?_
      refine gh_iload_n dc_X7_place_33 rfl ?_
      refine gh_icmp_ne (tgt := 40) dc_X7_place_34 rfl (fun c11 => ?_) (fun c11 => ?_)
      · replace hw := hw.1 c11
        refine gh_aload_n dc_X7_place_40 rfl ?_
        refine gh_callVv (mi' := mi_X7_remember) (as := []) (S := []) (k := 32) (t := 0) dc_X7_place_41 ml_RX7_168 ok_X7_remember rfl rfl (by decide) (Nat.le_of_ble_eq_true rfl) (by decide) (by decide) rfl rfl (wk_X7_remember _ _ hw) (fun M13 hw => ?_)
        refine gh_aload_n dc_X7_place_44 rfl ?_
        refine gh_getR (k := 32) (t := 0) dc_X7_place_45 fl_RX7_7 (by decide) (by decide) rfl rfl ?_
        refine gh_iconst (v := (nI 0)) dc_X7_place_48 gc_0 ?_
        refine gh_iload_n dc_X7_place_49 rfl ?_
        refine gh_callSi (mi' := mi_X7_trickAt) (as := [vI (nI 0), vI a0]) (S := [vR 33 0]) dc_X7_place_50 ml_RX7_98 ok_X7_trickAt rfl rfl (by decide) (Nat.le_of_ble_eq_true rfl) (wk_X7_trickAt _ _ _ _ hw) (fun r14 M15 hw => ?_)
        refine gh_iconst (v := (nI 1)) dc_X7_place_53 gc_1 ?_
        refine gh_iadd dc_X7_place_54 ?_
        refine gh_iload_n dc_X7_place_55 rfl ?_
        obtain ⟨h16, hw⟩ := hw
        refine gh_iast (k := 33) (t := 0) dc_X7_place_56 rfl (by decide) (by decide) h16 ?_
        obtain ⟨M17, eM17⟩ : ∃ z, z = (gh_st M15 33 0 (r14 + (nI 1)).toNatClampNeg a1) := ⟨_, rfl⟩
        rw [← eM17]
        replace hw := hw _ eM17
        refine gh_iload_n dc_X7_place_57 rfl ?_
        exact gh_iret dc_X7_place_58 hE rfl hw
      · replace hw := hw.2 c11
        refine gh_ldc (v := (-1000002 : Int32)) dc_X7_place_37 tw_991 ?_
        exact gh_iret dc_X7_place_39 hE rfl hw
    · replace hw := hw.2 c6
      refine gh_ldc (v := (-1000001 : Int32)) dc_X7_place_16 tw_898 ?_
      exact gh_iret dc_X7_place_18 hE rfl hw
theorem wk_X7_flip   (Q : Int32 → gh_M → Prop) (a0 : Int32) (M : gh_M) (hw : wp_X7_flip  a0 M Q) : gh_Calls 3 mi_X7_flip [vR 32 0, vI a0] M (gh_Qi Q) := by
  refine gh_of (by decide) rfl 0 rfl (L0 := [some (vR 32 0), some (vI a0)]) rfl (fun wd x hE => ?_)
  unfold wp_X7_flip at hw
  refine gh_aload_n dc_X7_flip_0 rfl ?_
  refine gh_iload_n dc_X7_flip_1 rfl ?_
  refine gh_callVi (mi' := mi_X7_isTrick) (as := [vI a0]) (S := []) (k := 32) (t := 0) dc_X7_flip_2 ml_RX7_174 ok_X7_isTrick rfl rfl (by decide) (Nat.le_of_ble_eq_true rfl) (by decide) (by decide) rfl rfl (wk_X7_isTrick _ _ _ hw) (fun r1 M2 hw => ?_)
  refine gh_if_ne (tgt := 11) dc_X7_flip_5 rfl (fun c3 => ?_) (fun c3 => ?_)
  · replace hw := hw.1 c3
    refine gh_aload_n dc_X7_flip_11 rfl ?_
    refine gh_callVv (mi' := mi_X7_remember) (as := []) (S := []) (k := 32) (t := 0) dc_X7_flip_12 ml_RX7_168 ok_X7_remember rfl rfl (by decide) (Nat.le_of_ble_eq_true rfl) (by decide) (by decide) rfl rfl (wk_X7_remember _ _ hw) (fun M5 hw => ?_)
    refine gh_aload_n dc_X7_flip_15 rfl ?_
    refine gh_getR (k := 32) (t := 0) dc_X7_flip_16 fl_RX7_7 (by decide) (by decide) rfl rfl ?_
    refine gh_iconst (v := (nI 0)) dc_X7_flip_19 gc_0 ?_
    refine gh_iload_n dc_X7_flip_20 rfl ?_
    refine gh_callSi (mi' := mi_X7_trickAt) (as := [vI (nI 0), vI a0]) (S := [vR 33 0]) dc_X7_flip_21 ml_RX7_98 ok_X7_trickAt rfl rfl (by decide) (Nat.le_of_ble_eq_true rfl) (wk_X7_trickAt _ _ _ _ hw) (fun r6 M7 hw => ?_)
    refine gh_iconst (v := (nI 3)) dc_X7_flip_24 gc_3 ?_
    refine gh_iadd dc_X7_flip_25 ?_
    refine gh_iconst (v := (nI 1)) dc_X7_flip_26 gc_1 ?_
    refine gh_aload_n dc_X7_flip_27 rfl ?_
    refine gh_getR (k := 32) (t := 0) dc_X7_flip_28 fl_RX7_7 (by decide) (by decide) rfl rfl ?_
    refine gh_iconst (v := (nI 0)) dc_X7_flip_31 gc_0 ?_
    refine gh_iload_n dc_X7_flip_32 rfl ?_
    refine gh_callSi (mi' := mi_X7_trickAt) (as := [vI (nI 0), vI a0]) (S := [vR 33 0, vI (nI 1), vI (r6 + (nI 3)), vR 33 0]) dc_X7_flip_33 ml_RX7_98 ok_X7_trickAt rfl rfl (by decide) (Nat.le_of_ble_eq_true rfl) (wk_X7_trickAt _ _ _ _ hw) (fun r8 M9 hw => ?_)
    refine gh_iconst (v := (nI 3)) dc_X7_flip_36 gc_3 ?_
    refine gh_iadd dc_X7_flip_37 ?_
    obtain ⟨h10, hw⟩ := hw
    refine gh_iald (k := 33) (t := 0) dc_X7_flip_38 rfl (by decide) (by decide) h10 ?_
    refine gh_isub dc_X7_flip_39 ?_
    obtain ⟨h11, hw⟩ := hw
    refine gh_iast (k := 33) (t := 0) dc_X7_flip_40 rfl (by decide) (by decide) h11 ?_
    obtain ⟨M12, eM12⟩ : ∃ z, z = (gh_st M9 33 0 (r6 + (nI 3)).toNatClampNeg ((nI 1) - (M9 33 0 (r8 + (nI 3)).toNatClampNeg))) := ⟨_, rfl⟩
    rw [← eM12]
    replace hw := hw _ eM12
    refine gh_aload_n dc_X7_flip_41 rfl ?_
    refine gh_getR (k := 32) (t := 0) dc_X7_flip_42 fl_RX7_7 (by decide) (by decide) rfl rfl ?_
    refine gh_iconst (v := (nI 0)) dc_X7_flip_45 gc_0 ?_
    refine gh_iload_n dc_X7_flip_46 rfl ?_
    refine gh_callSi (mi' := mi_X7_trickAt) (as := [vI (nI 0), vI a0]) (S := [vR 33 0]) dc_X7_flip_47 ml_RX7_98 ok_X7_trickAt rfl rfl (by decide) (Nat.le_of_ble_eq_true rfl) (wk_X7_trickAt _ _ _ _ hw) (fun r13 M14 hw => ?_)
    refine gh_iconst (v := (nI 3)) dc_X7_flip_50 gc_3 ?_
    refine gh_iadd dc_X7_flip_51 ?_
    obtain ⟨h15, hw⟩ := hw
    refine gh_iald (k := 33) (t := 0) dc_X7_flip_52 rfl (by decide) (by decide) h15 ?_
    exact gh_iret dc_X7_flip_53 hE rfl hw
  · replace hw := hw.2 c3
    refine gh_ldc (v := (-1000001 : Int32)) dc_X7_flip_8 tw_898 ?_
    exact gh_iret dc_X7_flip_10 hE rfl hw
theorem wk_X7_isCar   (Q : Int32 → gh_M → Prop) (a0 : Int32) (M : gh_M) (hw : wp_X7_isCar  a0 M Q) : gh_Calls 2 mi_X7_isCar [vR 32 0, vI a0] M (gh_Qi Q) := by
  refine gh_of (by decide) rfl 0 rfl (L0 := [some (vR 32 0), some (vI a0)]) rfl (fun wd x hE => ?_)
  unfold wp_X7_isCar at hw
  refine gh_iload_n dc_X7_isCar_0 rfl ?_
  refine gh_iconst (v := (nI 0)) dc_X7_isCar_1 gc_0 ?_
  refine gh_aload_n dc_X7_isCar_2 rfl ?_
  refine gh_getR (k := 32) (t := 0) dc_X7_isCar_3 fl_RX7_7 (by decide) (by decide) rfl rfl ?_
  refine gh_iconst (v := (nI 2)) dc_X7_isCar_6 gc_2 ?_
  obtain ⟨h1, hw⟩ := hw
  refine gh_iald (k := 33) (t := 0) dc_X7_isCar_7 rfl (by decide) (by decide) h1 ?_
  refine gh_iconst (v := (nI 1)) dc_X7_isCar_8 gc_1 ?_
  refine gh_isub dc_X7_isCar_9 ?_
  refine gh_callSi (mi' := mi_X7_in) (as := [vI a0, vI (nI 0), vI ((M 33 0 (nI 2).toNatClampNeg) - (nI 1))]) (S := []) dc_X7_isCar_10 ml_RX7_51 ok_X7_in rfl rfl (by decide) (Nat.le_of_ble_eq_true rfl) (wk_X7_in _ _ _ _ _ hw) (fun r2 M3 hw => ?_)
  exact gh_zret dc_X7_isCar_13 hE rfl hw.1 hw.2
theorem wk_X7_nerve   (Q : Int32 → gh_M → Prop) (a0 : Int32) (a1 : Int32) (M : gh_M) (hw : wp_X7_nerve  a0 a1 M Q) : gh_Calls 3 mi_X7_nerve [vR 32 0, vI a0, vI a1] M (gh_Qi Q) := by
  refine gh_of (by decide) rfl 1 rfl (L0 := [some (vR 32 0), some (vI a0), some (vI a1), none]) rfl (fun wd x hE => ?_)
  unfold wp_X7_nerve at hw
  refine gh_aload_n dc_X7_nerve_0 rfl ?_
  refine gh_iload_n dc_X7_nerve_1 rfl ?_
  refine gh_callVi (mi' := mi_X7_isCar) (as := [vI a0]) (S := []) (k := 32) (t := 0) dc_X7_nerve_2 ml_RX7_180 ok_X7_isCar rfl rfl (by decide) (Nat.le_of_ble_eq_true rfl) (by decide) (by decide) rfl rfl (wk_X7_isCar _ _ _ hw) (fun r1 M2 hw => ?_)
  refine gh_if_eq (tgt := 18) dc_X7_nerve_5 rfl (fun c3 => ?_) (fun c3 => ?_)
  · replace hw := hw.1 c3
    refine gh_ldc (v := (-1000001 : Int32)) dc_X7_nerve_18 tw_898 ?_
    exact gh_iret dc_X7_nerve_20 hE rfl hw
  · replace hw := hw.2 c3
    refine gh_iload_n dc_X7_nerve_8 rfl ?_
    refine gh_iconst (v := (nI 1)) dc_X7_nerve_9 gc_1 ?_
    refine gh_bipush (v := (nI 60)) dc_X7_nerve_10 gb_60 ?_
    refine gh_callSi (mi' := mi_X7_in) (as := [vI a1, vI (nI 1), vI (nI 60)]) (S := []) dc_X7_nerve_12 ml_RX7_51 ok_X7_in rfl rfl (by decide) (Nat.le_of_ble_eq_true rfl) (wk_X7_in _ _ _ _ _ hw) (fun r4 M5 hw => ?_)
    refine gh_if_ne (tgt := 21) dc_X7_nerve_15 rfl (fun c6 => ?_) (fun c6 => ?_)
    · replace hw := hw.1 c6
      refine gh_aload_n dc_X7_nerve_21 rfl ?_
      refine gh_callVv (mi' := mi_X7_remember) (as := []) (S := []) (k := 32) (t := 0) dc_X7_nerve_22 ml_RX7_168 ok_X7_remember rfl rfl (by decide) (Nat.le_of_ble_eq_true rfl) (by decide) (by decide) rfl rfl (wk_X7_remember _ _ hw) (fun M8 hw => ?_)
      refine gh_aload_n dc_X7_nerve_25 rfl ?_
      refine gh_getR (k := 32) (t := 0) dc_X7_nerve_26 fl_RX7_7 (by decide) (by decide) rfl rfl ?_
      refine gh_iconst (v := (nI 0)) dc_X7_nerve_29 gc_0 ?_
      refine gh_iload_n dc_X7_nerve_30 rfl ?_
      refine gh_callSi (mi' := mi_X7_carAt) (as := [vI (nI 0), vI a0]) (S := [vR 33 0]) dc_X7_nerve_31 ml_RX7_112 ok_X7_carAt rfl rfl (by decide) (Nat.le_of_ble_eq_true rfl) (wk_X7_carAt _ _ _ _ hw) (fun r9 M10 hw => ?_)
      refine gh_iconst (v := (nI 1)) dc_X7_nerve_34 gc_1 ?_
      refine gh_iadd dc_X7_nerve_35 ?_
      obtain ⟨h11, hw⟩ := hw
      refine gh_iald (k := 33) (t := 0) dc_X7_nerve_36 rfl (by decide) (by decide) h11 ?_
      obtain ⟨y3_12, ey3_12⟩ : ∃ z, z = (M10 33 0 (r9 + (nI 1)).toNatClampNeg) := ⟨_, rfl⟩
      rw [← ey3_12]
      replace hw := hw _ ey3_12
      refine gh_istore_n (L' := [some (vR 32 0), some (vI a0), some (vI a1), some (vI y3_12)]) dc_X7_nerve_37 (by decide) rfl rfl ?_
      refine gh_aload_n dc_X7_nerve_38 rfl ?_
      refine gh_getR (k := 32) (t := 0) dc_X7_nerve_39 fl_RX7_7 (by decide) (by decide) rfl rfl ?_
      refine gh_iconst (v := (nI 0)) dc_X7_nerve_42 gc_0 ?_
      refine gh_iload_n dc_X7_nerve_43 rfl ?_
      refine gh_callSi (mi' := mi_X7_carAt) (as := [vI (nI 0), vI a0]) (S := [vR 33 0]) dc_X7_nerve_44 ml_RX7_112 ok_X7_carAt rfl rfl (by decide) (Nat.le_of_ble_eq_true rfl) (wk_X7_carAt _ _ _ _ hw) (fun r13 M14 hw => ?_)
      refine gh_iconst (v := (nI 1)) dc_X7_nerve_47 gc_1 ?_
      refine gh_iadd dc_X7_nerve_48 ?_
      refine gh_iload_n dc_X7_nerve_49 rfl ?_
      obtain ⟨h15, hw⟩ := hw
      refine gh_iast (k := 33) (t := 0) dc_X7_nerve_50 rfl (by decide) (by decide) h15 ?_
      obtain ⟨M16, eM16⟩ : ∃ z, z = (gh_st M14 33 0 (r13 + (nI 1)).toNatClampNeg a1) := ⟨_, rfl⟩
      rw [← eM16]
      replace hw := hw _ eM16
      refine gh_iload_n dc_X7_nerve_51 rfl ?_
      exact gh_iret dc_X7_nerve_52 hE rfl hw
    · replace hw := hw.2 c6
      refine gh_ldc (v := (-1000001 : Int32)) dc_X7_nerve_18 tw_898 ?_
      exact gh_iret dc_X7_nerve_20 hE rfl hw
theorem wk_X7_goesAgain   (Q : gh_M → Prop) (a0 : Int32) (a1 : Int32) (M : gh_M) (hw : wp_X7_goesAgain  a0 a1 M Q) : gh_Calls 2 mi_X7_goesAgain [vR 32 0, vI a0, vI a1] M (gh_Qv Q) := by
  refine gh_of (by decide) rfl 1 rfl (L0 := [some (vR 32 0), some (vI a0), some (vI a1), none]) rfl (fun wd x hE => ?_)
  unfold wp_X7_goesAgain at hw
  refine gh_iload_n dc_X7_goesAgain_0 rfl ?_
  refine gh_iload_n dc_X7_goesAgain_1 rfl ?_
  refine gh_callSi (mi' := mi_X7_carAt) (as := [vI a0, vI a1]) (S := []) dc_X7_goesAgain_2 ml_RX7_112 ok_X7_carAt rfl rfl (by decide) (Nat.le_of_ble_eq_true rfl) (wk_X7_carAt _ _ _ _ hw) (fun r1 M2 hw => ?_)
  refine gh_istore_n (L' := [some (vR 32 0), some (vI a0), some (vI a1), some (vI r1)]) dc_X7_goesAgain_5 (by decide) rfl rfl ?_
  refine gh_aload_n dc_X7_goesAgain_6 rfl ?_
  refine gh_getR (k := 32) (t := 0) dc_X7_goesAgain_7 fl_RX7_7 (by decide) (by decide) rfl rfl ?_
  refine gh_iload_n dc_X7_goesAgain_10 rfl ?_
  refine gh_iconst (v := (nI 3)) dc_X7_goesAgain_11 gc_3 ?_
  refine gh_iadd dc_X7_goesAgain_12 ?_
  refine gh_bipush (v := (nI 20)) dc_X7_goesAgain_13 gb_20 ?_
  obtain ⟨h3, hw⟩ := hw
  refine gh_iast (k := 33) (t := 0) dc_X7_goesAgain_15 rfl (by decide) (by decide) h3 ?_
  obtain ⟨M4, eM4⟩ : ∃ z, z = (gh_st M2 33 0 (r1 + (nI 3)).toNatClampNeg (nI 20)) := ⟨_, rfl⟩
  rw [← eM4]
  replace hw := hw _ eM4
  refine gh_aload_n dc_X7_goesAgain_16 rfl ?_
  refine gh_getR (k := 32) (t := 0) dc_X7_goesAgain_17 fl_RX7_7 (by decide) (by decide) rfl rfl ?_
  refine gh_iload_n dc_X7_goesAgain_20 rfl ?_
  refine gh_iconst (v := (nI 4)) dc_X7_goesAgain_21 gc_4 ?_
  refine gh_iadd dc_X7_goesAgain_22 ?_
  refine gh_iconst (v := (nI 0)) dc_X7_goesAgain_23 gc_0 ?_
  obtain ⟨h5, hw⟩ := hw
  refine gh_iast (k := 33) (t := 0) dc_X7_goesAgain_24 rfl (by decide) (by decide) h5 ?_
  obtain ⟨M6, eM6⟩ : ∃ z, z = (gh_st M4 33 0 (r1 + (nI 4)).toNatClampNeg (nI 0)) := ⟨_, rfl⟩
  rw [← eM6]
  replace hw := hw _ eM6
  refine gh_aload_n dc_X7_goesAgain_25 rfl ?_
  refine gh_getR (k := 32) (t := 0) dc_X7_goesAgain_26 fl_RX7_7 (by decide) (by decide) rfl rfl ?_
  refine gh_iload_n dc_X7_goesAgain_29 rfl ?_
  refine gh_bipush (v := (nI 6)) dc_X7_goesAgain_30 gb_6 ?_
  refine gh_iadd dc_X7_goesAgain_32 ?_
  refine gh_iconst (v := (nI 0)) dc_X7_goesAgain_33 gc_0 ?_
  obtain ⟨h7, hw⟩ := hw
  refine gh_iast (k := 33) (t := 0) dc_X7_goesAgain_34 rfl (by decide) (by decide) h7 ?_
  obtain ⟨M8, eM8⟩ : ∃ z, z = (gh_st M6 33 0 (r1 + (nI 6)).toNatClampNeg (nI 0)) := ⟨_, rfl⟩
  rw [← eM8]
  replace hw := hw _ eM8
  exact gh_vret dc_X7_goesAgain_35 hE rfl hw
theorem wk_X7_again   (Q : Int32 → gh_M → Prop) (a0 : Int32) (M : gh_M) (hw : wp_X7_again  a0 M Q) : gh_Calls 3 mi_X7_again [vR 32 0, vI a0] M (gh_Qi Q) := by
  refine gh_of (by decide) rfl 0 rfl (L0 := [some (vR 32 0), some (vI a0)]) rfl (fun wd x hE => ?_)
  unfold wp_X7_again at hw
  refine gh_aload_n dc_X7_again_0 rfl ?_
  refine gh_iload_n dc_X7_again_1 rfl ?_
  refine gh_callVi (mi' := mi_X7_isCar) (as := [vI a0]) (S := []) (k := 32) (t := 0) dc_X7_again_2 ml_RX7_180 ok_X7_isCar rfl rfl (by decide) (Nat.le_of_ble_eq_true rfl) (by decide) (by decide) rfl rfl (wk_X7_isCar _ _ _ hw) (fun r1 M2 hw => ?_)
  refine gh_if_ne (tgt := 11) dc_X7_again_5 rfl (fun c3 => ?_) (fun c3 => ?_)
  · replace hw := hw.1 c3
    refine gh_aload_n dc_X7_again_11 rfl ?_
    refine gh_getR (k := 32) (t := 0) dc_X7_again_12 fl_RX7_7 (by decide) (by decide) rfl rfl ?_
    refine gh_iconst (v := (nI 0)) dc_X7_again_15 gc_0 ?_
    refine gh_iload_n dc_X7_again_16 rfl ?_
    refine gh_callSi (mi' := mi_X7_carAt) (as := [vI (nI 0), vI a0]) (S := [vR 33 0]) dc_X7_again_17 ml_RX7_112 ok_X7_carAt rfl rfl (by decide) (Nat.le_of_ble_eq_true rfl) (wk_X7_carAt _ _ _ _ hw) (fun r4 M5 hw => ?_)
    refine gh_iconst (v := (nI 3)) dc_X7_again_20 gc_3 ?_
    refine gh_iadd dc_X7_again_21 ?_
    obtain ⟨h6, hw⟩ := hw
    refine gh_iald (k := 33) (t := 0) dc_X7_again_22 rfl (by decide) (by decide) h6 ?_
    refine gh_bipush (v := (nI 21)) dc_X7_again_23 gb_21 ?_
    refine gh_icmp_eq (tgt := 31) dc_X7_again_25 rfl (fun c7 => ?_) (fun c7 => ?_)
    · replace hw := hw.1 c7
      refine gh_aload_n dc_X7_again_31 rfl ?_
      refine gh_callVv (mi' := mi_X7_remember) (as := []) (S := []) (k := 32) (t := 0) dc_X7_again_32 ml_RX7_168 ok_X7_remember rfl rfl (by decide) (Nat.le_of_ble_eq_true rfl) (by decide) (by decide) rfl rfl (wk_X7_remember _ _ hw) (fun M9 hw => ?_)
      refine gh_aload_n dc_X7_again_35 rfl ?_
      refine gh_iconst (v := (nI 0)) dc_X7_again_36 gc_0 ?_
      refine gh_iload_n dc_X7_again_37 rfl ?_
      refine gh_callVv (mi' := mi_X7_goesAgain) (as := [vI (nI 0), vI a0]) (S := []) (k := 32) (t := 0) dc_X7_again_38 ml_RX7_183 ok_X7_goesAgain rfl rfl (by decide) (Nat.le_of_ble_eq_true rfl) (by decide) (by decide) rfl rfl (wk_X7_goesAgain _ _ _ _ hw) (fun M11 hw => ?_)
      refine gh_aload_n dc_X7_again_41 rfl ?_
      refine gh_iconst (v := (nI 0)) dc_X7_again_42 gc_0 ?_
      refine gh_iconst (v := (nI 1)) dc_X7_again_43 gc_1 ?_
      refine gh_callVi (mi' := mi_X7_carsThat) (as := [vI (nI 0), vI (nI 1)]) (S := []) (k := 32) (t := 0) dc_X7_again_44 ml_RX7_171 ok_X7_carsThat rfl rfl (by decide) (Nat.le_of_ble_eq_true rfl) (by decide) (by decide) rfl rfl (wk_X7_carsThat _ _ _ _ hw) (fun r12 M13 hw => ?_)
      exact gh_iret dc_X7_again_47 hE rfl hw
    · replace hw := hw.2 c7
      refine gh_ldc (v := (-1000002 : Int32)) dc_X7_again_28 tw_991 ?_
      exact gh_iret dc_X7_again_30 hE rfl hw
  · replace hw := hw.2 c3
    refine gh_ldc (v := (-1000001 : Int32)) dc_X7_again_8 tw_898 ?_
    exact gh_iret dc_X7_again_10 hE rfl hw
theorem wk_X7_trick   (Q : Int32 → gh_M → Prop) (a0 : Int32) (a1 : Int32) (M : gh_M) (hw : wp_X7_trick  a0 a1 M Q) : gh_Calls 3 mi_X7_trick [vR 32 0, vI a0, vI a1] M (gh_Qi Q) := by
  refine gh_of (by decide) rfl 0 rfl (L0 := [some (vR 32 0), some (vI a0), some (vI a1)]) rfl (fun wd x hE => ?_)
  unfold wp_X7_trick at hw
  refine gh_aload_n dc_X7_trick_0 rfl ?_
  refine gh_iload_n dc_X7_trick_1 rfl ?_
  refine gh_callVi (mi' := mi_X7_isTrick) (as := [vI a0]) (S := []) (k := 32) (t := 0) dc_X7_trick_2 ml_RX7_174 ok_X7_isTrick rfl rfl (by decide) (Nat.le_of_ble_eq_true rfl) (by decide) (by decide) rfl rfl (wk_X7_isTrick _ _ _ hw) (fun r1 M2 hw => ?_)
  refine gh_if_eq (tgt := 34) dc_X7_trick_5 rfl (fun c3 => ?_) (fun c3 => ?_)
  · replace hw := hw.1 c3
    refine gh_ldc (v := (-1000001 : Int32)) dc_X7_trick_34 tw_898 ?_
    exact gh_iret dc_X7_trick_36 hE rfl hw
  · replace hw := hw.2 c3
    refine gh_iload_n dc_X7_trick_8 rfl ?_
    refine gh_iconst (v := (nI 0)) dc_X7_trick_9 gc_0 ?_
    refine gh_iconst (v := (nI 3)) dc_X7_trick_10 gc_3 ?_
    refine gh_callSi (mi' := mi_X7_in) (as := [vI a1, vI (nI 0), vI (nI 3)]) (S := []) dc_X7_trick_11 ml_RX7_51 ok_X7_in rfl rfl (by decide) (Nat.le_of_ble_eq_true rfl) (wk_X7_in _ _ _ _ _ hw) (fun r4 M5 hw => ?_)
    refine gh_if_eq (tgt := 34) dc_X7_trick_14 rfl (fun c6 => ?_) (fun c6 => ?_)
    · replace hw := hw.1 c6
      refine gh_ldc (v := (-1000001 : Int32)) dc_X7_trick_34 tw_898 ?_
      exact gh_iret dc_X7_trick_36 hE rfl hw
    · replace hw := hw.2 c6
      refine gh_aload_n dc_X7_trick_17 rfl ?_
      refine gh_getR (k := 32) (t := 0) dc_X7_trick_18 fl_RX7_7 (by decide) (by decide) rfl rfl ?_
      refine gh_iconst (v := (nI 0)) dc_X7_trick_21 gc_0 ?_
      refine gh_iload_n dc_X7_trick_22 rfl ?_
      refine gh_callSi (mi' := mi_X7_trickAt) (as := [vI (nI 0), vI a0]) (S := [vR 33 0]) dc_X7_trick_23 ml_RX7_98 ok_X7_trickAt rfl rfl (by decide) (Nat.le_of_ble_eq_true rfl) (wk_X7_trickAt _ _ _ _ hw) (fun r7 M8 hw => ?_)
      refine gh_iconst (v := (nI 1)) dc_X7_trick_26 gc_1 ?_
      refine gh_iadd dc_X7_trick_27 ?_
      refine gh_iload_n dc_X7_trick_28 rfl ?_
      refine gh_iadd dc_X7_trick_29 ?_
      obtain ⟨h9, hw⟩ := hw
      refine gh_iald (k := 33) (t := 0) dc_X7_trick_30 rfl (by decide) (by decide) h9 ?_
      refine gh_goto (tgt := 36) dc_X7_trick_31 rfl ?_
      exact gh_iret dc_X7_trick_36 hE rfl hw
theorem wk_X7_car   (Q : Int32 → gh_M → Prop) (a0 : Int32) (a1 : Int32) (M : gh_M) (hw : wp_X7_car  a0 a1 M Q) : gh_Calls 3 mi_X7_car [vR 32 0, vI a0, vI a1] M (gh_Qi Q) := by
  refine gh_of (by decide) rfl 0 rfl (L0 := [some (vR 32 0), some (vI a0), some (vI a1)]) rfl (fun wd x hE => ?_)
  unfold wp_X7_car at hw
  refine gh_aload_n dc_X7_car_0 rfl ?_
  refine gh_iload_n dc_X7_car_1 rfl ?_
  refine gh_callVi (mi' := mi_X7_isCar) (as := [vI a0]) (S := []) (k := 32) (t := 0) dc_X7_car_2 ml_RX7_180 ok_X7_isCar rfl rfl (by decide) (Nat.le_of_ble_eq_true rfl) (by decide) (by decide) rfl rfl (wk_X7_isCar _ _ _ hw) (fun r1 M2 hw => ?_)
  refine gh_if_eq (tgt := 33) dc_X7_car_5 rfl (fun c3 => ?_) (fun c3 => ?_)
  · replace hw := hw.1 c3
    refine gh_ldc (v := (-1000001 : Int32)) dc_X7_car_33 tw_898 ?_
    exact gh_iret dc_X7_car_35 hE rfl hw
  · replace hw := hw.2 c3
    refine gh_iload_n dc_X7_car_8 rfl ?_
    refine gh_iconst (v := (nI 0)) dc_X7_car_9 gc_0 ?_
    refine gh_bipush (v := (nI 6)) dc_X7_car_10 gb_6 ?_
    refine gh_callSi (mi' := mi_X7_in) (as := [vI a1, vI (nI 0), vI (nI 6)]) (S := []) dc_X7_car_12 ml_RX7_51 ok_X7_in rfl rfl (by decide) (Nat.le_of_ble_eq_true rfl) (wk_X7_in _ _ _ _ _ hw) (fun r4 M5 hw => ?_)
    refine gh_if_eq (tgt := 33) dc_X7_car_15 rfl (fun c6 => ?_) (fun c6 => ?_)
    · replace hw := hw.1 c6
      refine gh_ldc (v := (-1000001 : Int32)) dc_X7_car_33 tw_898 ?_
      exact gh_iret dc_X7_car_35 hE rfl hw
    · replace hw := hw.2 c6
      refine gh_aload_n dc_X7_car_18 rfl ?_
      refine gh_getR (k := 32) (t := 0) dc_X7_car_19 fl_RX7_7 (by decide) (by decide) rfl rfl ?_
      refine gh_iconst (v := (nI 0)) dc_X7_car_22 gc_0 ?_
      refine gh_iload_n dc_X7_car_23 rfl ?_
      refine gh_callSi (mi' := mi_X7_carAt) (as := [vI (nI 0), vI a0]) (S := [vR 33 0]) dc_X7_car_24 ml_RX7_112 ok_X7_carAt rfl rfl (by decide) (Nat.le_of_ble_eq_true rfl) (wk_X7_carAt _ _ _ _ hw) (fun r7 M8 hw => ?_)
      refine gh_iload_n dc_X7_car_27 rfl ?_
      refine gh_iadd dc_X7_car_28 ?_
      obtain ⟨h9, hw⟩ := hw
      refine gh_iald (k := 33) (t := 0) dc_X7_car_29 rfl (by decide) (by decide) h9 ?_
      refine gh_goto (tgt := 35) dc_X7_car_30 rfl ?_
      exact gh_iret dc_X7_car_35 hE rfl hw
theorem lk_X7_tricksIn_4 {wd : gh_Wd} {x : gh_X} {Q : Int32 → gh_M → Prop}   (hE : gh_E wd (gh_Qi Q) x)   : ∀ (n : Nat) (x1 : Int32) (x2 : Int32) (x3 : Int32) (M : gh_M), wl_X7_tricksIn_4 Q n x1 x2 x3 M → gh_J mi_X7_tricksIn 2 wd x M 4 [some (vR 32 0), some (vI x1), some (vI x2), some (vI x3)] [] := by
  intro n
  induction n with
  | zero => intro x1 x2 x3 M hw; exact hw.elim
  | succ n ih =>
    intro x1 x2 x3 M hw
    unfold wl_X7_tricksIn_4 at hw
    refine gh_iload_n dc_X7_tricksIn_4 rfl ?_
    refine gh_aload_n dc_X7_tricksIn_5 rfl ?_
    refine gh_getR (k := 32) (t := 0) dc_X7_tricksIn_6 fl_RX7_7 (by decide) (by decide) rfl rfl ?_
    refine gh_iconst (v := (nI 1)) dc_X7_tricksIn_9 gc_1 ?_
    obtain ⟨h1, hw⟩ := hw
    refine gh_iald (k := 33) (t := 0) dc_X7_tricksIn_10 rfl (by decide) (by decide) h1 ?_
    refine gh_icmp_ge (tgt := 46) dc_X7_tricksIn_11 rfl (fun c2 => ?_) (fun c2 => ?_)
    · replace hw := hw.1 c2
      refine gh_iload_n dc_X7_tricksIn_46 rfl ?_
      exact gh_iret dc_X7_tricksIn_47 hE rfl hw
    · replace hw := hw.2 c2
      refine gh_iload_n dc_X7_tricksIn_14 rfl ?_
      refine gh_aload_n dc_X7_tricksIn_15 rfl ?_
      refine gh_getR (k := 32) (t := 0) dc_X7_tricksIn_16 fl_RX7_7 (by decide) (by decide) rfl rfl ?_
      refine gh_iconst (v := (nI 0)) dc_X7_tricksIn_19 gc_0 ?_
      refine gh_iload_n dc_X7_tricksIn_20 rfl ?_
      refine gh_callSi (mi' := mi_X7_trickAt) (as := [vI (nI 0), vI x3]) (S := [vR 33 0, vI x2]) dc_X7_tricksIn_21 ml_RX7_98 ok_X7_trickAt rfl rfl (by decide) (Nat.le_of_ble_eq_true rfl) (wk_X7_trickAt _ _ _ _ hw) (fun r3 M4 hw => ?_)
      refine gh_iconst (v := (nI 1)) dc_X7_tricksIn_24 gc_1 ?_
      refine gh_iadd dc_X7_tricksIn_25 ?_
      obtain ⟨h5, hw⟩ := hw
      refine gh_iald (k := 33) (t := 0) dc_X7_tricksIn_26 rfl (by decide) (by decide) h5 ?_
      refine gh_iload_n dc_X7_tricksIn_27 rfl ?_
      refine gh_icmp_ne (tgt := 37) dc_X7_tricksIn_28 rfl (fun c6 => ?_) (fun c6 => ?_)
      · replace hw := hw.1 c6
        refine gh_iconst (v := (nI 0)) dc_X7_tricksIn_37 gc_0 ?_
        refine gh_ior dc_X7_tricksIn_38 ?_
        obtain ⟨y2_7, ey2_7⟩ : ∃ z, z = (x2 ||| (nI 0)) := ⟨_, rfl⟩
        rw [← ey2_7]
        replace hw := hw _ ey2_7
        refine gh_istore_n (L' := [some (vR 32 0), some (vI x1), some (vI y2_7), some (vI x3)]) dc_X7_tricksIn_39 (by decide) rfl rfl ?_
        obtain ⟨y3_8, ey3_8⟩ : ∃ z, z = (x3 + (nI 1)) := ⟨_, rfl⟩
        replace hw := hw _ ey3_8
        refine gh_iinc (v := y3_8) (L' := [some (vR 32 0), some (vI x1), some (vI y2_7), some (vI y3_8)]) dc_X7_tricksIn_40 rfl ((congrArg (fun z => x3 + z) gc_1).trans ey3_8.symm) (by decide) rfl rfl ?_
        refine gh_goto (tgt := 4) dc_X7_tricksIn_43 rfl ?_
        refine gh_drop (pc' := 0) [some (vR 32 0), some (vI x1), some (vI y2_7), some (vI y3_8)] ⟨rfl, rfl, rfl, rfl, trivial⟩ ?_
        exact ih _ _ _ _ hw
      · replace hw := hw.2 c6
        refine gh_iconst (v := (nI 1)) dc_X7_tricksIn_31 gc_1 ?_
        refine gh_iload_n dc_X7_tricksIn_32 rfl ?_
        refine gh_ishl dc_X7_tricksIn_33 ?_
        refine gh_goto (tgt := 38) dc_X7_tricksIn_34 rfl ?_
        refine gh_ior dc_X7_tricksIn_38 ?_
        obtain ⟨y2_9, ey2_9⟩ : ∃ z, z = (x2 ||| ((nI 1) <<< (x3 &&& 31))) := ⟨_, rfl⟩
        rw [← ey2_9]
        replace hw := hw _ ey2_9
        refine gh_istore_n (L' := [some (vR 32 0), some (vI x1), some (vI y2_9), some (vI x3)]) dc_X7_tricksIn_39 (by decide) rfl rfl ?_
        obtain ⟨y3_10, ey3_10⟩ : ∃ z, z = (x3 + (nI 1)) := ⟨_, rfl⟩
        replace hw := hw _ ey3_10
        refine gh_iinc (v := y3_10) (L' := [some (vR 32 0), some (vI x1), some (vI y2_9), some (vI y3_10)]) dc_X7_tricksIn_40 rfl ((congrArg (fun z => x3 + z) gc_1).trans ey3_10.symm) (by decide) rfl rfl ?_
        refine gh_goto (tgt := 4) dc_X7_tricksIn_43 rfl ?_
        refine gh_drop (pc' := 0) [some (vR 32 0), some (vI x1), some (vI y2_9), some (vI y3_10)] ⟨rfl, rfl, rfl, rfl, trivial⟩ ?_
        exact ih _ _ _ _ hw
theorem wk_X7_tricksIn   (Q : Int32 → gh_M → Prop) (a0 : Int32) (M : gh_M) (hw : wp_X7_tricksIn  a0 M Q) : gh_Calls 2 mi_X7_tricksIn [vR 32 0, vI a0] M (gh_Qi Q) := by
  refine gh_of (by decide) rfl 2 rfl (L0 := [some (vR 32 0), some (vI a0), none, none]) rfl (fun wd x hE => ?_)
  unfold wp_X7_tricksIn at hw
  refine gh_iconst (v := (nI 0)) dc_X7_tricksIn_0 gc_0 ?_
  refine gh_istore_n (L' := [some (vR 32 0), some (vI a0), some (vI (nI 0)), none]) dc_X7_tricksIn_1 (by decide) rfl rfl ?_
  refine gh_iconst (v := (nI 0)) dc_X7_tricksIn_2 gc_0 ?_
  refine gh_istore_n (L' := [some (vR 32 0), some (vI a0), some (vI (nI 0)), some (vI (nI 0))]) dc_X7_tricksIn_3 (by decide) rfl rfl ?_
  refine gh_drop (pc' := 0) [some (vR 32 0), some (vI a0), some (vI (nI 0)), some (vI (nI 0))] ⟨rfl, rfl, rfl, rfl, trivial⟩ ?_
  obtain ⟨k, hw⟩ := hw
  exact lk_X7_tricksIn_4  hE  k _ _ _ _ hw
theorem wk_X7_cell   (Q : Int32 → gh_M → Prop) (a0 : Int32) (a1 : Int32) (M : gh_M) (hw : wp_X7_cell  a0 a1 M Q) : gh_Calls 3 mi_X7_cell [vR 32 0, vI a0, vI a1] M (gh_Qi Q) := by
  refine gh_of (by decide) rfl 0 rfl (L0 := [some (vR 32 0), some (vI a0), some (vI a1)]) rfl (fun wd x hE => ?_)
  unfold wp_X7_cell at hw
  refine gh_aload_n dc_X7_cell_0 rfl ?_
  refine gh_iload_n dc_X7_cell_1 rfl ?_
  refine gh_callVi (mi' := mi_X7_isCell) (as := [vI a0]) (S := []) (k := 32) (t := 0) dc_X7_cell_2 ml_RX7_177 ok_X7_isCell rfl rfl (by decide) (Nat.le_of_ble_eq_true rfl) (by decide) (by decide) rfl rfl (wk_X7_isCell _ _ _ hw) (fun r1 M2 hw => ?_)
  refine gh_if_eq (tgt := 17) dc_X7_cell_5 rfl (fun c3 => ?_) (fun c3 => ?_)
  · replace hw := hw.1 c3
    refine gh_ldc (v := (-1000001 : Int32)) dc_X7_cell_17 tw_898 ?_
    exact gh_iret dc_X7_cell_19 hE rfl hw
  · replace hw := hw.2 c3
    refine gh_iload_n dc_X7_cell_8 rfl ?_
    refine gh_iconst (v := (nI 0)) dc_X7_cell_9 gc_0 ?_
    refine gh_iconst (v := (nI 1)) dc_X7_cell_10 gc_1 ?_
    refine gh_callSi (mi' := mi_X7_in) (as := [vI a1, vI (nI 0), vI (nI 1)]) (S := []) dc_X7_cell_11 ml_RX7_51 ok_X7_in rfl rfl (by decide) (Nat.le_of_ble_eq_true rfl) (wk_X7_in _ _ _ _ _ hw) (fun r4 M5 hw => ?_)
    refine gh_if_ne (tgt := 20) dc_X7_cell_14 rfl (fun c6 => ?_) (fun c6 => ?_)
    · replace hw := hw.1 c6
      refine gh_iload_n dc_X7_cell_20 rfl ?_
      refine gh_if_ne (tgt := 33) dc_X7_cell_21 rfl (fun c7 => ?_) (fun c7 => ?_)
      · replace hw := hw.1 c7
        refine gh_aload_n dc_X7_cell_33 rfl ?_
        refine gh_iload_n dc_X7_cell_34 rfl ?_
        refine gh_callVi (mi' := mi_X7_tricksIn) (as := [vI a0]) (S := []) (k := 32) (t := 0) dc_X7_cell_35 ml_RX7_186 ok_X7_tricksIn rfl rfl (by decide) (Nat.le_of_ble_eq_true rfl) (by decide) (by decide) rfl rfl (wk_X7_tricksIn _ _ _ hw) (fun r8 M9 hw => ?_)
        exact gh_iret dc_X7_cell_38 hE rfl hw
      · replace hw := hw.2 c7
        refine gh_aload_n dc_X7_cell_24 rfl ?_
        refine gh_iconst (v := (nI 0)) dc_X7_cell_25 gc_0 ?_
        refine gh_iload_n dc_X7_cell_26 rfl ?_
        refine gh_callVi (mi' := mi_X7_carIn) (as := [vI (nI 0), vI a0]) (S := []) (k := 32) (t := 0) dc_X7_cell_27 ml_RX7_146 ok_X7_carIn rfl rfl (by decide) (Nat.le_of_ble_eq_true rfl) (by decide) (by decide) rfl rfl (wk_X7_carIn _ _ _ _ hw) (fun r10 M11 hw => ?_)
        refine gh_goto (tgt := 38) dc_X7_cell_30 rfl ?_
        exact gh_iret dc_X7_cell_38 hE rfl hw
    · replace hw := hw.2 c6
      refine gh_ldc (v := (-1000001 : Int32)) dc_X7_cell_17 tw_898 ?_
      exact gh_iret dc_X7_cell_19 hE rfl hw
theorem lk_X7_onSet_4 {wd : gh_Wd} {x : gh_X} {Q : Int32 → gh_M → Prop}   (hE : gh_E wd (gh_Qi Q) x)   : ∀ (n : Nat) (x1 : Int32) (x2 : Int32) (x3 : Int32) (M : gh_M), wl_X7_onSet_4 Q n x1 x2 x3 M → gh_J mi_X7_onSet 2 wd x M 4 [some (vR 32 0), some (vI x1), some (vI x2), some (vI x3)] [] := by
  intro n
  induction n with
  | zero => intro x1 x2 x3 M hw; exact hw.elim
  | succ n ih =>
    intro x1 x2 x3 M hw
    unfold wl_X7_onSet_4 at hw
    refine gh_iload_n dc_X7_onSet_4 rfl ?_
    refine gh_aload_n dc_X7_onSet_5 rfl ?_
    refine gh_getR (k := 32) (t := 0) dc_X7_onSet_6 fl_RX7_7 (by decide) (by decide) rfl rfl ?_
    refine gh_iload_n dc_X7_onSet_9 rfl ?_
    refine gh_iconst (v := (nI 1)) dc_X7_onSet_10 gc_1 ?_
    refine gh_iadd dc_X7_onSet_11 ?_
    obtain ⟨h1, hw⟩ := hw
    refine gh_iald (k := 33) (t := 0) dc_X7_onSet_12 rfl (by decide) (by decide) h1 ?_
    refine gh_icmp_ge (tgt := 39) dc_X7_onSet_13 rfl (fun c2 => ?_) (fun c2 => ?_)
    · replace hw := hw.1 c2
      refine gh_iload_n dc_X7_onSet_39 rfl ?_
      exact gh_iret dc_X7_onSet_40 hE rfl hw
    · replace hw := hw.2 c2
      refine gh_iload_n dc_X7_onSet_16 rfl ?_
      refine gh_aload_n dc_X7_onSet_17 rfl ?_
      refine gh_getR (k := 32) (t := 0) dc_X7_onSet_18 fl_RX7_7 (by decide) (by decide) rfl rfl ?_
      refine gh_iload_n dc_X7_onSet_21 rfl ?_
      refine gh_iload_n dc_X7_onSet_22 rfl ?_
      refine gh_callSi (mi' := mi_X7_trickAt) (as := [vI x1, vI x3]) (S := [vR 33 0, vI x2]) dc_X7_onSet_23 ml_RX7_98 ok_X7_trickAt rfl rfl (by decide) (Nat.le_of_ble_eq_true rfl) (wk_X7_trickAt _ _ _ _ hw) (fun r3 M4 hw => ?_)
      refine gh_iconst (v := (nI 3)) dc_X7_onSet_26 gc_3 ?_
      refine gh_iadd dc_X7_onSet_27 ?_
      obtain ⟨h5, hw⟩ := hw
      refine gh_iald (k := 33) (t := 0) dc_X7_onSet_28 rfl (by decide) (by decide) h5 ?_
      refine gh_iload_n dc_X7_onSet_29 rfl ?_
      refine gh_ishl dc_X7_onSet_30 ?_
      refine gh_ior dc_X7_onSet_31 ?_
      obtain ⟨y2_6, ey2_6⟩ : ∃ z, z = (x2 ||| ((M4 33 0 (r3 + (nI 3)).toNatClampNeg) <<< (x3 &&& 31))) := ⟨_, rfl⟩
      rw [← ey2_6]
      replace hw := hw _ ey2_6
      refine gh_istore_n (L' := [some (vR 32 0), some (vI x1), some (vI y2_6), some (vI x3)]) dc_X7_onSet_32 (by decide) rfl rfl ?_
      obtain ⟨y3_7, ey3_7⟩ : ∃ z, z = (x3 + (nI 1)) := ⟨_, rfl⟩
      replace hw := hw _ ey3_7
      refine gh_iinc (v := y3_7) (L' := [some (vR 32 0), some (vI x1), some (vI y2_6), some (vI y3_7)]) dc_X7_onSet_33 rfl ((congrArg (fun z => x3 + z) gc_1).trans ey3_7.symm) (by decide) rfl rfl ?_
      refine gh_goto (tgt := 4) dc_X7_onSet_36 rfl ?_
      refine gh_drop (pc' := 0) [some (vR 32 0), some (vI x1), some (vI y2_6), some (vI y3_7)] ⟨rfl, rfl, rfl, rfl, trivial⟩ ?_
      exact ih _ _ _ _ hw
theorem wk_X7_onSet   (Q : Int32 → gh_M → Prop) (a0 : Int32) (M : gh_M) (hw : wp_X7_onSet  a0 M Q) : gh_Calls 2 mi_X7_onSet [vR 32 0, vI a0] M (gh_Qi Q) := by
  refine gh_of (by decide) rfl 2 rfl (L0 := [some (vR 32 0), some (vI a0), none, none]) rfl (fun wd x hE => ?_)
  unfold wp_X7_onSet at hw
  refine gh_iconst (v := (nI 0)) dc_X7_onSet_0 gc_0 ?_
  refine gh_istore_n (L' := [some (vR 32 0), some (vI a0), some (vI (nI 0)), none]) dc_X7_onSet_1 (by decide) rfl rfl ?_
  refine gh_iconst (v := (nI 0)) dc_X7_onSet_2 gc_0 ?_
  refine gh_istore_n (L' := [some (vR 32 0), some (vI a0), some (vI (nI 0)), some (vI (nI 0))]) dc_X7_onSet_3 (by decide) rfl rfl ?_
  refine gh_drop (pc' := 0) [some (vR 32 0), some (vI a0), some (vI (nI 0)), some (vI (nI 0))] ⟨rfl, rfl, rfl, rfl, trivial⟩ ?_
  obtain ⟨k, hw⟩ := hw
  exact lk_X7_onSet_4  hE  k _ _ _ _ hw
theorem wk_X7_stand   (Q : Int32 → gh_M → Prop) (a0 : Int32) (M : gh_M) (hw : wp_X7_stand  a0 M Q) : gh_Calls 3 mi_X7_stand [vR 32 0, vI a0] M (gh_Qi Q) := by
  refine gh_of (by decide) rfl 0 rfl (L0 := [some (vR 32 0), some (vI a0)]) rfl (fun wd x hE => ?_)
  unfold wp_X7_stand at hw
  refine gh_aload_n dc_X7_stand_0 rfl ?_
  refine gh_callVi (mi' := mi_X7_isTrain) (as := []) (S := []) (k := 32) (t := 0) dc_X7_stand_1 ml_RX7_165 ok_X7_isTrain rfl rfl (by decide) (Nat.le_of_ble_eq_true rfl) (by decide) (by decide) rfl rfl (wk_X7_isTrain _ _ hw) (fun r1 M2 hw => ?_)
  refine gh_if_ne (tgt := 10) dc_X7_stand_4 rfl (fun c3 => ?_) (fun c3 => ?_)
  · replace hw := hw.1 c3
    refine gh_iload_n dc_X7_stand_10 rfl ?_
    refine gh_iconst (v := (nI 0)) dc_X7_stand_11 gc_0 ?_
    refine gh_iconst (v := (nI 4)) dc_X7_stand_12 gc_4 ?_
    refine gh_callSi (mi' := mi_X7_in) (as := [vI a0, vI (nI 0), vI (nI 4)]) (S := []) dc_X7_stand_13 ml_RX7_51 ok_X7_in rfl rfl (by decide) (Nat.le_of_ble_eq_true rfl) (wk_X7_in _ _ _ _ _ hw) (fun r4 M5 hw => ?_)
    refine gh_if_ne (tgt := 22) dc_X7_stand_16 rfl (fun c6 => ?_) (fun c6 => ?_)
    · replace hw := hw.1 c6
      refine gh_iload_n dc_X7_stand_22 rfl ?_
      refine gh_if_ne (tgt := 35) dc_X7_stand_23 rfl (fun c7 => ?_) (fun c7 => ?_)
      · replace hw := hw.1 c7
        refine gh_iload_n dc_X7_stand_35 rfl ?_
        refine gh_iconst (v := (nI 4)) dc_X7_stand_36 gc_4 ?_
        refine gh_icmp_ne (tgt := 48) dc_X7_stand_37 rfl (fun c8 => ?_) (fun c8 => ?_)
        · replace hw := hw.1 c8
          refine gh_aload_n dc_X7_stand_48 rfl ?_
          refine gh_iconst (v := (nI 0)) dc_X7_stand_49 gc_0 ?_
          refine gh_iload_n dc_X7_stand_50 rfl ?_
          refine gh_callVi (mi' := mi_X7_carsThat) (as := [vI (nI 0), vI a0]) (S := []) (k := 32) (t := 0) dc_X7_stand_51 ml_RX7_171 ok_X7_carsThat rfl rfl (by decide) (Nat.le_of_ble_eq_true rfl) (by decide) (by decide) rfl rfl (wk_X7_carsThat _ _ _ _ hw) (fun r9 M10 hw => ?_)
          exact gh_iret dc_X7_stand_54 hE rfl hw
        · replace hw := hw.2 c8
          refine gh_aload_n dc_X7_stand_40 rfl ?_
          refine gh_iconst (v := (nI 0)) dc_X7_stand_41 gc_0 ?_
          refine gh_callVi (mi' := mi_X7_onSet) (as := [vI (nI 0)]) (S := []) (k := 32) (t := 0) dc_X7_stand_42 ml_RX7_189 ok_X7_onSet rfl rfl (by decide) (Nat.le_of_ble_eq_true rfl) (by decide) (by decide) rfl rfl (wk_X7_onSet _ _ _ hw) (fun r11 M12 hw => ?_)
          refine gh_goto (tgt := 54) dc_X7_stand_45 rfl ?_
          exact gh_iret dc_X7_stand_54 hE rfl hw
      · replace hw := hw.2 c7
        refine gh_aload_n dc_X7_stand_26 rfl ?_
        refine gh_getR (k := 32) (t := 0) dc_X7_stand_27 fl_RX7_7 (by decide) (by decide) rfl rfl ?_
        refine gh_iconst (v := (nI 0)) dc_X7_stand_30 gc_0 ?_
        obtain ⟨h13, hw⟩ := hw
        refine gh_iald (k := 33) (t := 0) dc_X7_stand_31 rfl (by decide) (by decide) h13 ?_
        refine gh_goto (tgt := 54) dc_X7_stand_32 rfl ?_
        exact gh_iret dc_X7_stand_54 hE rfl hw
    · replace hw := hw.2 c6
      refine gh_ldc (v := (-1000001 : Int32)) dc_X7_stand_19 tw_898 ?_
      exact gh_iret dc_X7_stand_21 hE rfl hw
  · replace hw := hw.2 c3
    refine gh_ldc (v := (-1000002 : Int32)) dc_X7_stand_7 tw_991 ?_
    exact gh_iret dc_X7_stand_9 hE rfl hw
theorem lk_X7_noHowls_7 {wd : gh_Wd} {x : gh_X} {Q : gh_M → Prop}   (hE : gh_E wd (gh_Qv Q) x)   : ∀ (n : Nat) (x1 : Int32) (M : gh_M), wl_X7_noHowls_7 Q n x1 M → gh_J mi_X7_noHowls 1 wd x M 7 [some (vR 32 0), some (vI x1)] [] := by
  intro n
  induction n with
  | zero => intro x1 M hw; exact hw.elim
  | succ n ih =>
    intro x1 M hw
    unfold wl_X7_noHowls_7 at hw
    refine gh_iload_n dc_X7_noHowls_7 rfl ?_
    refine gh_bipush (v := (nI 6)) dc_X7_noHowls_8 gb_6 ?_
    refine gh_icmp_ge (tgt := 26) dc_X7_noHowls_10 rfl (fun c2 => ?_) (fun c2 => ?_)
    · replace hw := hw.1 c2
      exact gh_vret dc_X7_noHowls_26 hE rfl hw
    · replace hw := hw.2 c2
      refine gh_aload_n dc_X7_noHowls_13 rfl ?_
      refine gh_getR (k := 32) (t := 0) dc_X7_noHowls_14 fl_RX7_19 (by decide) (by decide) rfl rfl ?_
      refine gh_iload_n dc_X7_noHowls_17 rfl ?_
      refine gh_iconst (v := (nI 0)) dc_X7_noHowls_18 gc_0 ?_
      obtain ⟨h3, hw⟩ := hw
      refine gh_iast (k := 36) (t := 0) dc_X7_noHowls_19 rfl (by decide) (by decide) h3 ?_
      obtain ⟨M4, eM4⟩ : ∃ z, z = (gh_st M 36 0 x1.toNatClampNeg (nI 0)) := ⟨_, rfl⟩
      rw [← eM4]
      replace hw := hw _ eM4
      obtain ⟨y1_5, ey1_5⟩ : ∃ z, z = (x1 + (nI 1)) := ⟨_, rfl⟩
      replace hw := hw _ ey1_5
      refine gh_iinc (v := y1_5) (L' := [some (vR 32 0), some (vI y1_5)]) dc_X7_noHowls_20 rfl ((congrArg (fun z => x1 + z) gc_1).trans ey1_5.symm) (by decide) rfl rfl ?_
      refine gh_goto (tgt := 7) dc_X7_noHowls_23 rfl ?_
      refine gh_drop (pc' := 0) [some (vR 32 0), some (vI y1_5)] ⟨rfl, rfl, trivial⟩ ?_
      exact ih _ _ hw
theorem wk_X7_noHowls   (Q : gh_M → Prop)  (M : gh_M) (hw : wp_X7_noHowls   M Q) : gh_Calls 1 mi_X7_noHowls [vR 32 0] M (gh_Qv Q) := by
  refine gh_of (by decide) rfl 1 rfl (L0 := [some (vR 32 0), none]) rfl (fun wd x hE => ?_)
  unfold wp_X7_noHowls at hw
  refine gh_aload_n dc_X7_noHowls_0 rfl ?_
  refine gh_iconst (v := (nI 0)) dc_X7_noHowls_1 gc_0 ?_
  refine gh_put (k := 32) (t := 0) dc_X7_noHowls_2 fl_RX7_143 (by decide) (by decide) rfl rfl (fun _ h => by cases h; rfl) rfl rfl ?_
  obtain ⟨M1, eM1⟩ : ∃ z, z = (gh_st M 32 0 5 (nI 0)) := ⟨_, rfl⟩
  rw [← eM1]
  replace hw := hw _ eM1
  refine gh_iconst (v := (nI 0)) dc_X7_noHowls_5 gc_0 ?_
  refine gh_istore_n (L' := [some (vR 32 0), some (vI (nI 0))]) dc_X7_noHowls_6 (by decide) rfl rfl ?_
  refine gh_drop (pc' := 0) [some (vR 32 0), some (vI (nI 0))] ⟨rfl, rfl, trivial⟩ ?_
  obtain ⟨k, hw⟩ := hw
  exact lk_X7_noHowls_7  hE  k _ _ hw
theorem wk_X7_beginTry   (Q : gh_M → Prop)  (M : gh_M) (hw : wp_X7_beginTry   M Q) : gh_Calls 2 mi_X7_beginTry [vR 32 0] M (gh_Qv Q) := by
  refine gh_of (by decide) rfl 0 rfl (L0 := [some (vR 32 0)]) rfl (fun wd x hE => ?_)
  unfold wp_X7_beginTry at hw
  refine gh_aload_n dc_X7_beginTry_0 rfl ?_
  refine gh_iconst (v := (nI 0)) dc_X7_beginTry_1 gc_0 ?_
  refine gh_sipush (v := (nI 1917)) dc_X7_beginTry_2 gs_1917 ?_
  refine gh_callVv (mi' := mi_X7_copyRow) (as := [vI (nI 0), vI (nI 1917)]) (S := []) (k := 32) (t := 0) dc_X7_beginTry_5 ml_RX7_128 ok_X7_copyRow rfl rfl (by decide) (Nat.le_of_ble_eq_true rfl) (by decide) (by decide) rfl rfl (wk_X7_copyRow _ _ _ _ hw) (fun M2 hw => ?_)
  refine gh_aload_n dc_X7_beginTry_8 rfl ?_
  refine gh_callVv (mi' := mi_X7_rankByNumbers) (as := []) (S := []) (k := 32) (t := 0) dc_X7_beginTry_9 ml_RX7_155 ok_X7_rankByNumbers rfl rfl (by decide) (Nat.le_of_ble_eq_true rfl) (by decide) (by decide) rfl rfl (wk_X7_rankByNumbers _ _ hw) (fun M4 hw => ?_)
  refine gh_aload_n dc_X7_beginTry_12 rfl ?_
  refine gh_callVv (mi' := mi_X7_noHowls) (as := []) (S := []) (k := 32) (t := 0) dc_X7_beginTry_13 ml_RX7_158 ok_X7_noHowls rfl rfl (by decide) (Nat.le_of_ble_eq_true rfl) (by decide) (by decide) rfl rfl (wk_X7_noHowls _ _ hw) (fun M6 hw => ?_)
  exact gh_vret dc_X7_beginTry_16 hE rfl hw
theorem lk_X7_goOn_2 {wd : gh_Wd} {x : gh_X} {Q : gh_M → Prop}   (hE : gh_E wd (gh_Qv Q) x)   : ∀ (n : Nat) (x1 : Int32) (x2 : Int32) (M : gh_M), wl_X7_goOn_2 Q n x1 x2 M → gh_J mi_X7_goOn 7 wd x M 2 [some (vR 32 0), some (vI x1), some (vI x2)] [] := by
  intro n
  induction n with
  | zero => intro x1 x2 M hw; exact hw.elim
  | succ n ih =>
    intro x1 x2 M hw
    unfold wl_X7_goOn_2 at hw
    refine gh_iload_n dc_X7_goOn_2 rfl ?_
    refine gh_iload_n dc_X7_goOn_3 rfl ?_
    refine gh_icmp_ge (tgt := 20) dc_X7_goOn_4 rfl (fun c1 => ?_) (fun c1 => ?_)
    · replace hw := hw.1 c1
      exact gh_vret dc_X7_goOn_20 hE rfl hw
    · replace hw := hw.2 c1
      refine gh_aload_n dc_X7_goOn_7 rfl ?_
      refine gh_sipush (v := (nI 1917)) dc_X7_goOn_8 gs_1917 ?_
      refine gh_callVv (mi' := mi_X7_tickAt) (as := [vI (nI 1917)]) (S := []) (k := 32) (t := 0) dc_X7_goOn_11 ml_RX7_161 ok_X7_tickAt rfl rfl (by decide) (Nat.le_of_ble_eq_true rfl) (by decide) (by decide) rfl rfl (wk_X7_tickAt _ _ _ hw) (fun M3 hw => ?_)
      obtain ⟨y2_4, ey2_4⟩ : ∃ z, z = (x2 + (nI 1)) := ⟨_, rfl⟩
      replace hw := hw _ ey2_4
      refine gh_iinc (v := y2_4) (L' := [some (vR 32 0), some (vI x1), some (vI y2_4)]) dc_X7_goOn_14 rfl ((congrArg (fun z => x2 + z) gc_1).trans ey2_4.symm) (by decide) rfl rfl ?_
      refine gh_goto (tgt := 2) dc_X7_goOn_17 rfl ?_
      refine gh_drop (pc' := 0) [some (vR 32 0), some (vI x1), some (vI y2_4)] ⟨rfl, rfl, rfl, trivial⟩ ?_
      exact ih _ _ _ hw
theorem wk_X7_goOn   (Q : gh_M → Prop) (a0 : Int32) (M : gh_M) (hw : wp_X7_goOn  a0 M Q) : gh_Calls 7 mi_X7_goOn [vR 32 0, vI a0] M (gh_Qv Q) := by
  refine gh_of (by decide) rfl 1 rfl (L0 := [some (vR 32 0), some (vI a0), none]) rfl (fun wd x hE => ?_)
  unfold wp_X7_goOn at hw
  refine gh_iconst (v := (nI 0)) dc_X7_goOn_0 gc_0 ?_
  refine gh_istore_n (L' := [some (vR 32 0), some (vI a0), some (vI (nI 0))]) dc_X7_goOn_1 (by decide) rfl rfl ?_
  refine gh_drop (pc' := 0) [some (vR 32 0), some (vI a0), some (vI (nI 0))] ⟨rfl, rfl, rfl, trivial⟩ ?_
  obtain ⟨k, hw⟩ := hw
  exact lk_X7_goOn_2  hE  k _ _ _ hw
theorem wk_X7_ahead   (Q : Int32 → gh_M → Prop) (a0 : Int32) (a1 : Int32) (a2 : Int32) (M : gh_M) (hw : wp_X7_ahead  a0 a1 a2 M Q) : gh_Calls 8 mi_X7_ahead [vR 32 0, vI a0, vI a1, vI a2] M (gh_Qi Q) := by
  refine gh_of (by decide) rfl 0 rfl (L0 := [some (vR 32 0), some (vI a0), some (vI a1), some (vI a2)]) rfl (fun wd x hE => ?_)
  unfold wp_X7_ahead at hw
  refine gh_aload_n dc_X7_ahead_0 rfl ?_
  refine gh_iload_n dc_X7_ahead_1 rfl ?_
  refine gh_callVi (mi' := mi_X7_isCar) (as := [vI a0]) (S := []) (k := 32) (t := 0) dc_X7_ahead_2 ml_RX7_180 ok_X7_isCar rfl rfl (by decide) (Nat.le_of_ble_eq_true rfl) (by decide) (by decide) rfl rfl (wk_X7_isCar _ _ _ hw) (fun r1 M2 hw => ?_)
  refine gh_if_eq (tgt := 27) dc_X7_ahead_5 rfl (fun c3 => ?_) (fun c3 => ?_)
  · replace hw := hw.1 c3
    refine gh_ldc (v := (-1000001 : Int32)) dc_X7_ahead_27 tw_898 ?_
    exact gh_iret dc_X7_ahead_29 hE rfl hw
  · replace hw := hw.2 c3
    refine gh_iload_n dc_X7_ahead_8 rfl ?_
    refine gh_iconst (v := (nI 0)) dc_X7_ahead_9 gc_0 ?_
    refine gh_bipush (v := (nI 60)) dc_X7_ahead_10 gb_60 ?_
    refine gh_callSi (mi' := mi_X7_in) (as := [vI a1, vI (nI 0), vI (nI 60)]) (S := []) dc_X7_ahead_12 ml_RX7_51 ok_X7_in rfl rfl (by decide) (Nat.le_of_ble_eq_true rfl) (wk_X7_in _ _ _ _ _ hw) (fun r4 M5 hw => ?_)
    refine gh_if_eq (tgt := 27) dc_X7_ahead_15 rfl (fun c6 => ?_) (fun c6 => ?_)
    · replace hw := hw.1 c6
      refine gh_ldc (v := (-1000001 : Int32)) dc_X7_ahead_27 tw_898 ?_
      exact gh_iret dc_X7_ahead_29 hE rfl hw
    · replace hw := hw.2 c6
      refine gh_iload_n dc_X7_ahead_18 rfl ?_
      refine gh_iconst (v := (nI 0)) dc_X7_ahead_19 gc_0 ?_
      refine gh_iconst (v := (nI 3)) dc_X7_ahead_20 gc_3 ?_
      refine gh_callSi (mi' := mi_X7_in) (as := [vI a2, vI (nI 0), vI (nI 3)]) (S := []) dc_X7_ahead_21 ml_RX7_51 ok_X7_in rfl rfl (by decide) (Nat.le_of_ble_eq_true rfl) (wk_X7_in _ _ _ _ _ hw) (fun r7 M8 hw => ?_)
      refine gh_if_ne (tgt := 30) dc_X7_ahead_24 rfl (fun c9 => ?_) (fun c9 => ?_)
      · replace hw := hw.1 c9
        refine gh_aload_n dc_X7_ahead_30 rfl ?_
        refine gh_callVv (mi' := mi_X7_beginTry) (as := []) (S := []) (k := 32) (t := 0) dc_X7_ahead_31 ml_RX7_192 ok_X7_beginTry rfl rfl (by decide) (Nat.le_of_ble_eq_true rfl) (by decide) (by decide) rfl rfl (wk_X7_beginTry _ _ hw) (fun M11 hw => ?_)
        refine gh_aload_n dc_X7_ahead_34 rfl ?_
        refine gh_iload_n dc_X7_ahead_35 rfl ?_
        refine gh_callVv (mi' := mi_X7_goOn) (as := [vI a1]) (S := []) (k := 32) (t := 0) dc_X7_ahead_36 ml_RX7_195 ok_X7_goOn rfl rfl (by decide) (Nat.le_of_ble_eq_true rfl) (by decide) (by decide) rfl rfl (wk_X7_goOn _ _ _ hw) (fun M13 hw => ?_)
        refine gh_aload_n dc_X7_ahead_39 rfl ?_
        refine gh_getR (k := 32) (t := 0) dc_X7_ahead_40 fl_RX7_7 (by decide) (by decide) rfl rfl ?_
        refine gh_sipush (v := (nI 1917)) dc_X7_ahead_43 gs_1917 ?_
        refine gh_iload_n dc_X7_ahead_46 rfl ?_
        refine gh_callSi (mi' := mi_X7_carAt) (as := [vI (nI 1917), vI a0]) (S := [vR 33 0]) dc_X7_ahead_47 ml_RX7_112 ok_X7_carAt rfl rfl (by decide) (Nat.le_of_ble_eq_true rfl) (wk_X7_carAt _ _ _ _ hw) (fun r14 M15 hw => ?_)
        refine gh_iconst (v := (nI 3)) dc_X7_ahead_50 gc_3 ?_
        refine gh_iadd dc_X7_ahead_51 ?_
        refine gh_iload_n dc_X7_ahead_52 rfl ?_
        refine gh_iadd dc_X7_ahead_53 ?_
        obtain ⟨h16, hw⟩ := hw
        refine gh_iald (k := 33) (t := 0) dc_X7_ahead_54 rfl (by decide) (by decide) h16 ?_
        exact gh_iret dc_X7_ahead_55 hE rfl hw
      · replace hw := hw.2 c9
        refine gh_ldc (v := (-1000001 : Int32)) dc_X7_ahead_27 tw_898 ?_
        exact gh_iret dc_X7_ahead_29 hE rfl hw
theorem lk_X7_allMet_4 {wd : gh_Wd} {x : gh_X} {Q : Int32 → gh_M → Prop}   (hE : gh_E wd (gh_Qi Q) x)   : ∀ (n : Nat) (x1 : Int32) (x2 : Int32) (x3 : Int32) (M : gh_M), wl_X7_allMet_4 Q n x1 x2 x3 M → gh_J mi_X7_allMet 2 wd x M 4 [some (vR 32 0), some (vI x1), some (vI x2), some (vI x3)] [] := by
  intro n
  induction n with
  | zero => intro x1 x2 x3 M hw; exact hw.elim
  | succ n ih =>
    intro x1 x2 x3 M hw
    unfold wl_X7_allMet_4 at hw
    refine gh_iload_n dc_X7_allMet_4 rfl ?_
    refine gh_aload_n dc_X7_allMet_5 rfl ?_
    refine gh_getR (k := 32) (t := 0) dc_X7_allMet_6 fl_RX7_7 (by decide) (by decide) rfl rfl ?_
    refine gh_iload_n dc_X7_allMet_9 rfl ?_
    refine gh_iconst (v := (nI 1)) dc_X7_allMet_10 gc_1 ?_
    refine gh_iadd dc_X7_allMet_11 ?_
    obtain ⟨h1, hw⟩ := hw
    refine gh_iald (k := 33) (t := 0) dc_X7_allMet_12 rfl (by decide) (by decide) h1 ?_
    refine gh_icmp_ge (tgt := 37) dc_X7_allMet_13 rfl (fun c2 => ?_) (fun c2 => ?_)
    · replace hw := hw.1 c2
      refine gh_iload_n dc_X7_allMet_37 rfl ?_
      exact gh_iret dc_X7_allMet_38 hE rfl hw
    · replace hw := hw.2 c2
      refine gh_iload_n dc_X7_allMet_16 rfl ?_
      refine gh_aload_n dc_X7_allMet_17 rfl ?_
      refine gh_getR (k := 32) (t := 0) dc_X7_allMet_18 fl_RX7_7 (by decide) (by decide) rfl rfl ?_
      refine gh_iload_n dc_X7_allMet_21 rfl ?_
      refine gh_iload_n dc_X7_allMet_22 rfl ?_
      refine gh_callSi (mi' := mi_X7_trickAt) (as := [vI x1, vI x3]) (S := [vR 33 0, vI x2]) dc_X7_allMet_23 ml_RX7_98 ok_X7_trickAt rfl rfl (by decide) (Nat.le_of_ble_eq_true rfl) (wk_X7_trickAt _ _ _ _ hw) (fun r3 M4 hw => ?_)
      refine gh_iconst (v := (nI 4)) dc_X7_allMet_26 gc_4 ?_
      refine gh_iadd dc_X7_allMet_27 ?_
      obtain ⟨h5, hw⟩ := hw
      refine gh_iald (k := 33) (t := 0) dc_X7_allMet_28 rfl (by decide) (by decide) h5 ?_
      refine gh_iadd dc_X7_allMet_29 ?_
      obtain ⟨y2_6, ey2_6⟩ : ∃ z, z = (x2 + (M4 33 0 (r3 + (nI 4)).toNatClampNeg)) := ⟨_, rfl⟩
      rw [← ey2_6]
      replace hw := hw _ ey2_6
      refine gh_istore_n (L' := [some (vR 32 0), some (vI x1), some (vI y2_6), some (vI x3)]) dc_X7_allMet_30 (by decide) rfl rfl ?_
      obtain ⟨y3_7, ey3_7⟩ : ∃ z, z = (x3 + (nI 1)) := ⟨_, rfl⟩
      replace hw := hw _ ey3_7
      refine gh_iinc (v := y3_7) (L' := [some (vR 32 0), some (vI x1), some (vI y2_6), some (vI y3_7)]) dc_X7_allMet_31 rfl ((congrArg (fun z => x3 + z) gc_1).trans ey3_7.symm) (by decide) rfl rfl ?_
      refine gh_goto (tgt := 4) dc_X7_allMet_34 rfl ?_
      refine gh_drop (pc' := 0) [some (vR 32 0), some (vI x1), some (vI y2_6), some (vI y3_7)] ⟨rfl, rfl, rfl, rfl, trivial⟩ ?_
      exact ih _ _ _ _ hw
theorem wk_X7_allMet   (Q : Int32 → gh_M → Prop) (a0 : Int32) (M : gh_M) (hw : wp_X7_allMet  a0 M Q) : gh_Calls 2 mi_X7_allMet [vR 32 0, vI a0] M (gh_Qi Q) := by
  refine gh_of (by decide) rfl 2 rfl (L0 := [some (vR 32 0), some (vI a0), none, none]) rfl (fun wd x hE => ?_)
  unfold wp_X7_allMet at hw
  refine gh_iconst (v := (nI 0)) dc_X7_allMet_0 gc_0 ?_
  refine gh_istore_n (L' := [some (vR 32 0), some (vI a0), some (vI (nI 0)), none]) dc_X7_allMet_1 (by decide) rfl rfl ?_
  refine gh_iconst (v := (nI 0)) dc_X7_allMet_2 gc_0 ?_
  refine gh_istore_n (L' := [some (vR 32 0), some (vI a0), some (vI (nI 0)), some (vI (nI 0))]) dc_X7_allMet_3 (by decide) rfl rfl ?_
  refine gh_drop (pc' := 0) [some (vR 32 0), some (vI a0), some (vI (nI 0)), some (vI (nI 0))] ⟨rfl, rfl, rfl, rfl, trivial⟩ ?_
  obtain ⟨k, hw⟩ := hw
  exact lk_X7_allMet_4  hE  k _ _ _ _ hw
theorem lk_X7_sumOf_5 {wd : gh_Wd} {x : gh_X} {Q : Int32 → gh_M → Prop}   (hE : gh_E wd (gh_Qi Q) x)   : ∀ (n : Nat) (x1 : Int32) (x2 : Int32) (x3 : Int32) (x4 : Int32) (M : gh_M), wl_X7_sumOf_5 Q n x1 x2 x3 x4 M → gh_J mi_X7_sumOf 2 wd x M 5 [some (vR 32 0), some (vI x1), some (vI x2), some (vI x3), some (vI x4)] [] := by
  intro n
  induction n with
  | zero => intro x1 x2 x3 x4 M hw; exact hw.elim
  | succ n ih =>
    intro x1 x2 x3 x4 M hw
    unfold wl_X7_sumOf_5 at hw
    refine gh_iload dc_X7_sumOf_5 rfl ?_
    refine gh_aload_n dc_X7_sumOf_7 rfl ?_
    refine gh_getR (k := 32) (t := 0) dc_X7_sumOf_8 fl_RX7_7 (by decide) (by decide) rfl rfl ?_
    refine gh_iload_n dc_X7_sumOf_11 rfl ?_
    refine gh_iconst (v := (nI 2)) dc_X7_sumOf_12 gc_2 ?_
    refine gh_iadd dc_X7_sumOf_13 ?_
    obtain ⟨h1, hw⟩ := hw
    refine gh_iald (k := 33) (t := 0) dc_X7_sumOf_14 rfl (by decide) (by decide) h1 ?_
    refine gh_icmp_ge (tgt := 40) dc_X7_sumOf_15 rfl (fun c2 => ?_) (fun c2 => ?_)
    · replace hw := hw.1 c2
      refine gh_iload_n dc_X7_sumOf_40 rfl ?_
      exact gh_iret dc_X7_sumOf_41 hE rfl hw
    · replace hw := hw.2 c2
      refine gh_iload_n dc_X7_sumOf_18 rfl ?_
      refine gh_aload_n dc_X7_sumOf_19 rfl ?_
      refine gh_getR (k := 32) (t := 0) dc_X7_sumOf_20 fl_RX7_7 (by decide) (by decide) rfl rfl ?_
      refine gh_iload_n dc_X7_sumOf_23 rfl ?_
      refine gh_iload dc_X7_sumOf_24 rfl ?_
      refine gh_callSi (mi' := mi_X7_carAt) (as := [vI x1, vI x4]) (S := [vR 33 0, vI x3]) dc_X7_sumOf_26 ml_RX7_112 ok_X7_carAt rfl rfl (by decide) (Nat.le_of_ble_eq_true rfl) (wk_X7_carAt _ _ _ _ hw) (fun r3 M4 hw => ?_)
      refine gh_iload_n dc_X7_sumOf_29 rfl ?_
      refine gh_iadd dc_X7_sumOf_30 ?_
      obtain ⟨h5, hw⟩ := hw
      refine gh_iald (k := 33) (t := 0) dc_X7_sumOf_31 rfl (by decide) (by decide) h5 ?_
      refine gh_iadd dc_X7_sumOf_32 ?_
      obtain ⟨y3_6, ey3_6⟩ : ∃ z, z = (x3 + (M4 33 0 (r3 + x2).toNatClampNeg)) := ⟨_, rfl⟩
      rw [← ey3_6]
      replace hw := hw _ ey3_6
      refine gh_istore_n (L' := [some (vR 32 0), some (vI x1), some (vI x2), some (vI y3_6), some (vI x4)]) dc_X7_sumOf_33 (by decide) rfl rfl ?_
      obtain ⟨y4_7, ey4_7⟩ : ∃ z, z = (x4 + (nI 1)) := ⟨_, rfl⟩
      replace hw := hw _ ey4_7
      refine gh_iinc (v := y4_7) (L' := [some (vR 32 0), some (vI x1), some (vI x2), some (vI y3_6), some (vI y4_7)]) dc_X7_sumOf_34 rfl ((congrArg (fun z => x4 + z) gc_1).trans ey4_7.symm) (by decide) rfl rfl ?_
      refine gh_goto (tgt := 5) dc_X7_sumOf_37 rfl ?_
      refine gh_drop (pc' := 0) [some (vR 32 0), some (vI x1), some (vI x2), some (vI y3_6), some (vI y4_7)] ⟨rfl, rfl, rfl, rfl, rfl, trivial⟩ ?_
      exact ih _ _ _ _ _ hw
theorem wk_X7_sumOf   (Q : Int32 → gh_M → Prop) (a0 : Int32) (a1 : Int32) (M : gh_M) (hw : wp_X7_sumOf  a0 a1 M Q) : gh_Calls 2 mi_X7_sumOf [vR 32 0, vI a0, vI a1] M (gh_Qi Q) := by
  refine gh_of (by decide) rfl 2 rfl (L0 := [some (vR 32 0), some (vI a0), some (vI a1), none, none]) rfl (fun wd x hE => ?_)
  unfold wp_X7_sumOf at hw
  refine gh_iconst (v := (nI 0)) dc_X7_sumOf_0 gc_0 ?_
  refine gh_istore_n (L' := [some (vR 32 0), some (vI a0), some (vI a1), some (vI (nI 0)), none]) dc_X7_sumOf_1 (by decide) rfl rfl ?_
  refine gh_iconst (v := (nI 0)) dc_X7_sumOf_2 gc_0 ?_
  refine gh_istore (L' := [some (vR 32 0), some (vI a0), some (vI a1), some (vI (nI 0)), some (vI (nI 0))]) dc_X7_sumOf_3 (by decide) rfl rfl ?_
  refine gh_drop (pc' := 0) [some (vR 32 0), some (vI a0), some (vI a1), some (vI (nI 0)), some (vI (nI 0))] ⟨rfl, rfl, rfl, rfl, rfl, trivial⟩ ?_
  obtain ⟨k, hw⟩ := hw
  exact lk_X7_sumOf_5  hE  k _ _ _ _ _ hw
theorem wk_X7_show   (Q : Int32 → gh_M → Prop) (a0 : Int32) (a1 : Int32) (M : gh_M) (hw : wp_X7_show  a0 a1 M Q) : gh_Calls 8 mi_X7_show [vR 32 0, vI a0, vI a1] M (gh_Qi Q) := by
  refine gh_of (by decide) rfl 0 rfl (L0 := [some (vR 32 0), some (vI a0), some (vI a1)]) rfl (fun wd x hE => ?_)
  unfold wp_X7_show at hw
  refine gh_aload_n dc_X7_show_0 rfl ?_
  refine gh_callVi (mi' := mi_X7_isTrain) (as := []) (S := []) (k := 32) (t := 0) dc_X7_show_1 ml_RX7_165 ok_X7_isTrain rfl rfl (by decide) (Nat.le_of_ble_eq_true rfl) (by decide) (by decide) rfl rfl (wk_X7_isTrain _ _ hw) (fun r1 M2 hw => ?_)
  refine gh_if_ne (tgt := 10) dc_X7_show_4 rfl (fun c3 => ?_) (fun c3 => ?_)
  · replace hw := hw.1 c3
    refine gh_iload_n dc_X7_show_10 rfl ?_
    refine gh_iconst (v := (nI 0)) dc_X7_show_11 gc_0 ?_
    refine gh_bipush (v := (nI 60)) dc_X7_show_12 gb_60 ?_
    refine gh_callSi (mi' := mi_X7_in) (as := [vI a0, vI (nI 0), vI (nI 60)]) (S := []) dc_X7_show_14 ml_RX7_51 ok_X7_in rfl rfl (by decide) (Nat.le_of_ble_eq_true rfl) (wk_X7_in _ _ _ _ _ hw) (fun r4 M5 hw => ?_)
    refine gh_if_eq (tgt := 29) dc_X7_show_17 rfl (fun c6 => ?_) (fun c6 => ?_)
    · replace hw := hw.1 c6
      refine gh_ldc (v := (-1000001 : Int32)) dc_X7_show_29 tw_898 ?_
      exact gh_iret dc_X7_show_31 hE rfl hw
    · replace hw := hw.2 c6
      refine gh_iload_n dc_X7_show_20 rfl ?_
      refine gh_iconst (v := (nI 0)) dc_X7_show_21 gc_0 ?_
      refine gh_iconst (v := (nI 2)) dc_X7_show_22 gc_2 ?_
      refine gh_callSi (mi' := mi_X7_in) (as := [vI a1, vI (nI 0), vI (nI 2)]) (S := []) dc_X7_show_23 ml_RX7_51 ok_X7_in rfl rfl (by decide) (Nat.le_of_ble_eq_true rfl) (wk_X7_in _ _ _ _ _ hw) (fun r7 M8 hw => ?_)
      refine gh_if_ne (tgt := 32) dc_X7_show_26 rfl (fun c9 => ?_) (fun c9 => ?_)
      · replace hw := hw.1 c9
        refine gh_aload_n dc_X7_show_32 rfl ?_
        refine gh_callVv (mi' := mi_X7_beginTry) (as := []) (S := []) (k := 32) (t := 0) dc_X7_show_33 ml_RX7_192 ok_X7_beginTry rfl rfl (by decide) (Nat.le_of_ble_eq_true rfl) (by decide) (by decide) rfl rfl (wk_X7_beginTry _ _ hw) (fun M11 hw => ?_)
        refine gh_aload_n dc_X7_show_36 rfl ?_
        refine gh_iload_n dc_X7_show_37 rfl ?_
        refine gh_callVv (mi' := mi_X7_goOn) (as := [vI a0]) (S := []) (k := 32) (t := 0) dc_X7_show_38 ml_RX7_195 ok_X7_goOn rfl rfl (by decide) (Nat.le_of_ble_eq_true rfl) (by decide) (by decide) rfl rfl (wk_X7_goOn _ _ _ hw) (fun M13 hw => ?_)
        refine gh_iload_n dc_X7_show_41 rfl ?_
        refine gh_if_ne (tgt := 56) dc_X7_show_42 rfl (fun c14 => ?_) (fun c14 => ?_)
        · replace hw := hw.1 c14
          refine gh_iload_n dc_X7_show_56 rfl ?_
          refine gh_iconst (v := (nI 1)) dc_X7_show_57 gc_1 ?_
          refine gh_icmp_ne (tgt := 72) dc_X7_show_58 rfl (fun c15 => ?_) (fun c15 => ?_)
          · replace hw := hw.1 c15
            refine gh_aload_n dc_X7_show_72 rfl ?_
            refine gh_sipush (v := (nI 1917)) dc_X7_show_73 gs_1917 ?_
            refine gh_callVi (mi' := mi_X7_allMet) (as := [vI (nI 1917)]) (S := []) (k := 32) (t := 0) dc_X7_show_76 ml_RX7_201 ok_X7_allMet rfl rfl (by decide) (Nat.le_of_ble_eq_true rfl) (by decide) (by decide) rfl rfl (wk_X7_allMet _ _ _ hw) (fun r16 M17 hw => ?_)
            exact gh_iret dc_X7_show_79 hE rfl hw
          · replace hw := hw.2 c15
            refine gh_aload_n dc_X7_show_61 rfl ?_
            refine gh_sipush (v := (nI 1917)) dc_X7_show_62 gs_1917 ?_
            refine gh_iconst (v := (nI 5)) dc_X7_show_65 gc_5 ?_
            refine gh_callVi (mi' := mi_X7_sumOf) (as := [vI (nI 1917), vI (nI 5)]) (S := []) (k := 32) (t := 0) dc_X7_show_66 ml_RX7_198 ok_X7_sumOf rfl rfl (by decide) (Nat.le_of_ble_eq_true rfl) (by decide) (by decide) rfl rfl (wk_X7_sumOf _ _ _ _ hw) (fun r18 M19 hw => ?_)
            refine gh_goto (tgt := 79) dc_X7_show_69 rfl ?_
            exact gh_iret dc_X7_show_79 hE rfl hw
        · replace hw := hw.2 c14
          refine gh_aload_n dc_X7_show_45 rfl ?_
          refine gh_sipush (v := (nI 1917)) dc_X7_show_46 gs_1917 ?_
          refine gh_iconst (v := (nI 3)) dc_X7_show_49 gc_3 ?_
          refine gh_callVi (mi' := mi_X7_carsThat) (as := [vI (nI 1917), vI (nI 3)]) (S := []) (k := 32) (t := 0) dc_X7_show_50 ml_RX7_171 ok_X7_carsThat rfl rfl (by decide) (Nat.le_of_ble_eq_true rfl) (by decide) (by decide) rfl rfl (wk_X7_carsThat _ _ _ _ hw) (fun r20 M21 hw => ?_)
          refine gh_goto (tgt := 79) dc_X7_show_53 rfl ?_
          exact gh_iret dc_X7_show_79 hE rfl hw
      · replace hw := hw.2 c9
        refine gh_ldc (v := (-1000001 : Int32)) dc_X7_show_29 tw_898 ?_
        exact gh_iret dc_X7_show_31 hE rfl hw
  · replace hw := hw.2 c3
    refine gh_ldc (v := (-1000002 : Int32)) dc_X7_show_7 tw_991 ?_
    exact gh_iret dc_X7_show_9 hE rfl hw
theorem lk_X7_when_26 {wd : gh_Wd} {x : gh_X} {Q : Int32 → gh_M → Prop}   (hE : gh_E wd (gh_Qi Q) x)   : ∀ (n : Nat) (x1 : Int32) (x2 : Int32) (x3 : Int32) (M : gh_M), wl_X7_when_26 Q n x1 x2 x3 M → gh_J mi_X7_when 7 wd x M 26 [some (vR 32 0), some (vI x1), some (vI x2), some (vI x3), none] [] := by
  intro n
  induction n with
  | zero => intro x1 x2 x3 M hw; exact hw.elim
  | succ n ih =>
    intro x1 x2 x3 M hw
    unfold wl_X7_when_26 at hw
    refine gh_iload_n dc_X7_when_26 rfl ?_
    refine gh_bipush (v := (nI 60)) dc_X7_when_27 gb_60 ?_
    refine gh_icmp_gt (tgt := 101) dc_X7_when_29 rfl (fun c9 => ?_) (fun c9 => ?_)
    · replace hw := hw.1 c9
      refine gh_ldc (v := (-1000000 : Int32)) dc_X7_when_101 tw_1016 ?_
      exact gh_iret dc_X7_when_103 hE rfl hw
    · replace hw := hw.2 c9
      refine gh_aload_n dc_X7_when_32 rfl ?_
      refine gh_getR (k := 32) (t := 0) dc_X7_when_33 fl_RX7_7 (by decide) (by decide) rfl rfl ?_
      refine gh_sipush (v := (nI 1917)) dc_X7_when_36 gs_1917 ?_
      refine gh_iload_n dc_X7_when_39 rfl ?_
      refine gh_callSi (mi' := mi_X7_carAt) (as := [vI (nI 1917), vI x1]) (S := [vR 33 0]) dc_X7_when_40 ml_RX7_112 ok_X7_carAt rfl rfl (by decide) (Nat.le_of_ble_eq_true rfl) (wk_X7_carAt _ _ _ _ hw) (fun r10 M11 hw => ?_)
      refine gh_iconst (v := (nI 3)) dc_X7_when_43 gc_3 ?_
      refine gh_iadd dc_X7_when_44 ?_
      obtain ⟨h12, hw⟩ := hw
      refine gh_iald (k := 33) (t := 0) dc_X7_when_45 rfl (by decide) (by decide) h12 ?_
      obtain ⟨y4_13, ey4_13⟩ : ∃ z, z = (M11 33 0 (r10 + (nI 3)).toNatClampNeg) := ⟨_, rfl⟩
      rw [← ey4_13]
      replace hw := hw _ ey4_13
      refine gh_istore (L' := [some (vR 32 0), some (vI x1), some (vI x2), some (vI x3), some (vI y4_13)]) dc_X7_when_46 (by decide) rfl rfl ?_
      refine gh_iload_n dc_X7_when_48 rfl ?_
      refine gh_if_ne (tgt := 62) dc_X7_when_49 rfl (fun c14 => ?_) (fun c14 => ?_)
      · replace hw := hw.1 c14
        refine gh_iload_n dc_X7_when_62 rfl ?_
        refine gh_iconst (v := (nI 1)) dc_X7_when_63 gc_1 ?_
        refine gh_icmp_ne (tgt := 79) dc_X7_when_64 rfl (fun c15 => ?_) (fun c15 => ?_)
        · replace hw := hw.1 c15
          refine gh_iload dc_X7_when_79 rfl ?_
          refine gh_bipush (v := (nI 21)) dc_X7_when_81 gb_21 ?_
          refine gh_icmp_ne (tgt := 88) dc_X7_when_83 rfl (fun c16 => ?_) (fun c16 => ?_)
          · replace hw := hw.1 c16
            refine gh_aload_n dc_X7_when_88 rfl ?_
            refine gh_sipush (v := (nI 1917)) dc_X7_when_89 gs_1917 ?_
            refine gh_callVv (mi' := mi_X7_tickAt) (as := [vI (nI 1917)]) (S := []) (k := 32) (t := 0) dc_X7_when_92 ml_RX7_161 ok_X7_tickAt rfl rfl (by decide) (Nat.le_of_ble_eq_true rfl) (by decide) (by decide) rfl rfl (wk_X7_tickAt _ _ _ hw) (fun M18 hw => ?_)
            obtain ⟨y3_19, ey3_19⟩ : ∃ z, z = (x3 + (nI 1)) := ⟨_, rfl⟩
            replace hw := hw _ ey3_19
            refine gh_iinc (v := y3_19) (L' := [some (vR 32 0), some (vI x1), some (vI x2), some (vI y3_19), some (vI y4_13)]) dc_X7_when_95 rfl ((congrArg (fun z => x3 + z) gc_1).trans ey3_19.symm) (by decide) rfl rfl ?_
            refine gh_goto (tgt := 26) dc_X7_when_98 rfl ?_
            refine gh_drop (pc' := 0) [some (vR 32 0), some (vI x1), some (vI x2), some (vI y3_19), none] ⟨rfl, rfl, rfl, rfl, trivial⟩ ?_
            exact ih _ _ _ _ hw
          · replace hw := hw.2 c16
            refine gh_iload_n dc_X7_when_86 rfl ?_
            exact gh_iret dc_X7_when_87 hE rfl hw
        · replace hw := hw.2 c15
          refine gh_aload_n dc_X7_when_67 rfl ?_
          refine gh_getR (k := 32) (t := 0) dc_X7_when_68 fl_RX7_19 (by decide) (by decide) rfl rfl ?_
          refine gh_iload_n dc_X7_when_71 rfl ?_
          obtain ⟨h20, hw⟩ := hw
          refine gh_iald (k := 36) (t := 0) dc_X7_when_72 rfl (by decide) (by decide) h20 ?_
          refine gh_if_le (tgt := 88) dc_X7_when_73 rfl (fun c21 => ?_) (fun c21 => ?_)
          · replace hw := hw.1 c21
            refine gh_aload_n dc_X7_when_88 rfl ?_
            refine gh_sipush (v := (nI 1917)) dc_X7_when_89 gs_1917 ?_
            refine gh_callVv (mi' := mi_X7_tickAt) (as := [vI (nI 1917)]) (S := []) (k := 32) (t := 0) dc_X7_when_92 ml_RX7_161 ok_X7_tickAt rfl rfl (by decide) (Nat.le_of_ble_eq_true rfl) (by decide) (by decide) rfl rfl (wk_X7_tickAt _ _ _ hw) (fun M23 hw => ?_)
            obtain ⟨y3_24, ey3_24⟩ : ∃ z, z = (x3 + (nI 1)) := ⟨_, rfl⟩
            replace hw := hw _ ey3_24
            refine gh_iinc (v := y3_24) (L' := [some (vR 32 0), some (vI x1), some (vI x2), some (vI y3_24), some (vI y4_13)]) dc_X7_when_95 rfl ((congrArg (fun z => x3 + z) gc_1).trans ey3_24.symm) (by decide) rfl rfl ?_
            refine gh_goto (tgt := 26) dc_X7_when_98 rfl ?_
            refine gh_drop (pc' := 0) [some (vR 32 0), some (vI x1), some (vI x2), some (vI y3_24), none] ⟨rfl, rfl, rfl, rfl, trivial⟩ ?_
            exact ih _ _ _ _ hw
          · replace hw := hw.2 c21
            refine gh_goto (tgt := 86) dc_X7_when_76 rfl ?_
            refine gh_iload_n dc_X7_when_86 rfl ?_
            exact gh_iret dc_X7_when_87 hE rfl hw
      · replace hw := hw.2 c14
        refine gh_iload dc_X7_when_52 rfl ?_
        refine gh_bipush (v := (nI 20)) dc_X7_when_54 gb_20 ?_
        refine gh_icmp_eq (tgt := 88) dc_X7_when_56 rfl (fun c25 => ?_) (fun c25 => ?_)
        · replace hw := hw.1 c25
          refine gh_aload_n dc_X7_when_88 rfl ?_
          refine gh_sipush (v := (nI 1917)) dc_X7_when_89 gs_1917 ?_
          refine gh_callVv (mi' := mi_X7_tickAt) (as := [vI (nI 1917)]) (S := []) (k := 32) (t := 0) dc_X7_when_92 ml_RX7_161 ok_X7_tickAt rfl rfl (by decide) (Nat.le_of_ble_eq_true rfl) (by decide) (by decide) rfl rfl (wk_X7_tickAt _ _ _ hw) (fun M27 hw => ?_)
          obtain ⟨y3_28, ey3_28⟩ : ∃ z, z = (x3 + (nI 1)) := ⟨_, rfl⟩
          replace hw := hw _ ey3_28
          refine gh_iinc (v := y3_28) (L' := [some (vR 32 0), some (vI x1), some (vI x2), some (vI y3_28), some (vI y4_13)]) dc_X7_when_95 rfl ((congrArg (fun z => x3 + z) gc_1).trans ey3_28.symm) (by decide) rfl rfl ?_
          refine gh_goto (tgt := 26) dc_X7_when_98 rfl ?_
          refine gh_drop (pc' := 0) [some (vR 32 0), some (vI x1), some (vI x2), some (vI y3_28), none] ⟨rfl, rfl, rfl, rfl, trivial⟩ ?_
          exact ih _ _ _ _ hw
        · replace hw := hw.2 c25
          refine gh_goto (tgt := 86) dc_X7_when_59 rfl ?_
          refine gh_iload_n dc_X7_when_86 rfl ?_
          exact gh_iret dc_X7_when_87 hE rfl hw
theorem wk_X7_when   (Q : Int32 → gh_M → Prop) (a0 : Int32) (a1 : Int32) (M : gh_M) (hw : wp_X7_when  a0 a1 M Q) : gh_Calls 7 mi_X7_when [vR 32 0, vI a0, vI a1] M (gh_Qi Q) := by
  refine gh_of (by decide) rfl 2 rfl (L0 := [some (vR 32 0), some (vI a0), some (vI a1), none, none]) rfl (fun wd x hE => ?_)
  unfold wp_X7_when at hw
  refine gh_aload_n dc_X7_when_0 rfl ?_
  refine gh_iload_n dc_X7_when_1 rfl ?_
  refine gh_callVi (mi' := mi_X7_isCar) (as := [vI a0]) (S := []) (k := 32) (t := 0) dc_X7_when_2 ml_RX7_180 ok_X7_isCar rfl rfl (by decide) (Nat.le_of_ble_eq_true rfl) (by decide) (by decide) rfl rfl (wk_X7_isCar _ _ _ hw) (fun r1 M2 hw => ?_)
  refine gh_if_eq (tgt := 17) dc_X7_when_5 rfl (fun c3 => ?_) (fun c3 => ?_)
  · replace hw := hw.1 c3
    refine gh_ldc (v := (-1000001 : Int32)) dc_X7_when_17 tw_898 ?_
    exact gh_iret dc_X7_when_19 hE rfl hw
  · replace hw := hw.2 c3
    refine gh_iload_n dc_X7_when_8 rfl ?_
    refine gh_iconst (v := (nI 0)) dc_X7_when_9 gc_0 ?_
    refine gh_iconst (v := (nI 2)) dc_X7_when_10 gc_2 ?_
    refine gh_callSi (mi' := mi_X7_in) (as := [vI a1, vI (nI 0), vI (nI 2)]) (S := []) dc_X7_when_11 ml_RX7_51 ok_X7_in rfl rfl (by decide) (Nat.le_of_ble_eq_true rfl) (wk_X7_in _ _ _ _ _ hw) (fun r4 M5 hw => ?_)
    refine gh_if_ne (tgt := 20) dc_X7_when_14 rfl (fun c6 => ?_) (fun c6 => ?_)
    · replace hw := hw.1 c6
      refine gh_aload_n dc_X7_when_20 rfl ?_
      refine gh_callVv (mi' := mi_X7_beginTry) (as := []) (S := []) (k := 32) (t := 0) dc_X7_when_21 ml_RX7_192 ok_X7_beginTry rfl rfl (by decide) (Nat.le_of_ble_eq_true rfl) (by decide) (by decide) rfl rfl (wk_X7_beginTry _ _ hw) (fun M8 hw => ?_)
      refine gh_iconst (v := (nI 0)) dc_X7_when_24 gc_0 ?_
      refine gh_istore_n (L' := [some (vR 32 0), some (vI a0), some (vI a1), some (vI (nI 0)), none]) dc_X7_when_25 (by decide) rfl rfl ?_
      refine gh_drop (pc' := 0) [some (vR 32 0), some (vI a0), some (vI a1), some (vI (nI 0)), none] ⟨rfl, rfl, rfl, rfl, trivial⟩ ?_
      obtain ⟨k, hw⟩ := hw
      exact lk_X7_when_26  hE  k _ _ _ _ hw
    · replace hw := hw.2 c6
      refine gh_ldc (v := (-1000001 : Int32)) dc_X7_when_17 tw_898 ?_
      exact gh_iret dc_X7_when_19 hE rfl hw
theorem wk_X7_allOut   (Q : Int32 → gh_M → Prop)  (M : gh_M) (hw : wp_X7_allOut   M Q) : gh_Calls 3 mi_X7_allOut [vR 32 0] M (gh_Qi Q) := by
  refine gh_of (by decide) rfl 0 rfl (L0 := [some (vR 32 0)]) rfl (fun wd x hE => ?_)
  unfold wp_X7_allOut at hw
  refine gh_aload_n dc_X7_allOut_0 rfl ?_
  refine gh_sipush (v := (nI 1917)) dc_X7_allOut_1 gs_1917 ?_
  refine gh_iconst (v := (nI 3)) dc_X7_allOut_4 gc_3 ?_
  refine gh_callVi (mi' := mi_X7_carsThat) (as := [vI (nI 1917), vI (nI 3)]) (S := []) (k := 32) (t := 0) dc_X7_allOut_5 ml_RX7_171 ok_X7_carsThat rfl rfl (by decide) (Nat.le_of_ble_eq_true rfl) (by decide) (by decide) rfl rfl (wk_X7_carsThat _ _ _ _ hw) (fun r1 M2 hw => ?_)
  refine gh_iconst (v := (nI 1)) dc_X7_allOut_8 gc_1 ?_
  refine gh_aload_n dc_X7_allOut_9 rfl ?_
  refine gh_getR (k := 32) (t := 0) dc_X7_allOut_10 fl_RX7_7 (by decide) (by decide) rfl rfl ?_
  refine gh_iconst (v := (nI 2)) dc_X7_allOut_13 gc_2 ?_
  obtain ⟨h3, hw⟩ := hw
  refine gh_iald (k := 33) (t := 0) dc_X7_allOut_14 rfl (by decide) (by decide) h3 ?_
  refine gh_ishl dc_X7_allOut_15 ?_
  refine gh_iconst (v := (nI 1)) dc_X7_allOut_16 gc_1 ?_
  refine gh_isub dc_X7_allOut_17 ?_
  refine gh_icmp_ne (tgt := 25) dc_X7_allOut_18 rfl (fun c4 => ?_) (fun c4 => ?_)
  · replace hw := hw.1 c4
    refine gh_iconst (v := (nI 0)) dc_X7_allOut_25 gc_0 ?_
    exact gh_zret dc_X7_allOut_26 hE rfl (by decide) hw
  · replace hw := hw.2 c4
    refine gh_iconst (v := (nI 1)) dc_X7_allOut_21 gc_1 ?_
    refine gh_goto (tgt := 26) dc_X7_allOut_22 rfl ?_
    exact gh_zret dc_X7_allOut_26 hE rfl (by decide) hw
theorem lk_X7_over_16 {wd : gh_Wd} {x : gh_X} {Q : Int32 → gh_M → Prop}   (hE : gh_E wd (gh_Qi Q) x)   : ∀ (n : Nat) (x1 : Int32) (M : gh_M), wl_X7_over_16 Q n x1 M → gh_J mi_X7_over 7 wd x M 16 [some (vR 32 0), some (vI x1)] [] := by
  intro n
  induction n with
  | zero => intro x1 M hw; exact hw.elim
  | succ n ih =>
    intro x1 M hw
    unfold wl_X7_over_16 at hw
    refine gh_iload_n dc_X7_over_16 rfl ?_
    refine gh_bipush (v := (nI 60)) dc_X7_over_17 gb_60 ?_
    refine gh_icmp_gt (tgt := 44) dc_X7_over_19 rfl (fun c6 => ?_) (fun c6 => ?_)
    · replace hw := hw.1 c6
      refine gh_ldc (v := (-1000000 : Int32)) dc_X7_over_44 tw_1016 ?_
      exact gh_iret dc_X7_over_46 hE rfl hw
    · replace hw := hw.2 c6
      refine gh_aload_n dc_X7_over_22 rfl ?_
      refine gh_callVi (mi' := mi_X7_allOut) (as := []) (S := []) (k := 32) (t := 0) dc_X7_over_23 ml_RX7_204 ok_X7_allOut rfl rfl (by decide) (Nat.le_of_ble_eq_true rfl) (by decide) (by decide) rfl rfl (wk_X7_allOut _ _ hw) (fun r7 M8 hw => ?_)
      refine gh_if_eq (tgt := 31) dc_X7_over_26 rfl (fun c9 => ?_) (fun c9 => ?_)
      · replace hw := hw.1 c9
        refine gh_aload_n dc_X7_over_31 rfl ?_
        refine gh_sipush (v := (nI 1917)) dc_X7_over_32 gs_1917 ?_
        refine gh_callVv (mi' := mi_X7_tickAt) (as := [vI (nI 1917)]) (S := []) (k := 32) (t := 0) dc_X7_over_35 ml_RX7_161 ok_X7_tickAt rfl rfl (by decide) (Nat.le_of_ble_eq_true rfl) (by decide) (by decide) rfl rfl (wk_X7_tickAt _ _ _ hw) (fun M11 hw => ?_)
        obtain ⟨y1_12, ey1_12⟩ : ∃ z, z = (x1 + (nI 1)) := ⟨_, rfl⟩
        replace hw := hw _ ey1_12
        refine gh_iinc (v := y1_12) (L' := [some (vR 32 0), some (vI y1_12)]) dc_X7_over_38 rfl ((congrArg (fun z => x1 + z) gc_1).trans ey1_12.symm) (by decide) rfl rfl ?_
        refine gh_goto (tgt := 16) dc_X7_over_41 rfl ?_
        refine gh_drop (pc' := 0) [some (vR 32 0), some (vI y1_12)] ⟨rfl, rfl, trivial⟩ ?_
        exact ih _ _ hw
      · replace hw := hw.2 c9
        refine gh_iload_n dc_X7_over_29 rfl ?_
        exact gh_iret dc_X7_over_30 hE rfl hw
theorem wk_X7_over   (Q : Int32 → gh_M → Prop)  (M : gh_M) (hw : wp_X7_over   M Q) : gh_Calls 7 mi_X7_over [vR 32 0] M (gh_Qi Q) := by
  refine gh_of (by decide) rfl 1 rfl (L0 := [some (vR 32 0), none]) rfl (fun wd x hE => ?_)
  unfold wp_X7_over at hw
  refine gh_aload_n dc_X7_over_0 rfl ?_
  refine gh_callVi (mi' := mi_X7_isTrain) (as := []) (S := []) (k := 32) (t := 0) dc_X7_over_1 ml_RX7_165 ok_X7_isTrain rfl rfl (by decide) (Nat.le_of_ble_eq_true rfl) (by decide) (by decide) rfl rfl (wk_X7_isTrain _ _ hw) (fun r1 M2 hw => ?_)
  refine gh_if_ne (tgt := 10) dc_X7_over_4 rfl (fun c3 => ?_) (fun c3 => ?_)
  · replace hw := hw.1 c3
    refine gh_aload_n dc_X7_over_10 rfl ?_
    refine gh_callVv (mi' := mi_X7_beginTry) (as := []) (S := []) (k := 32) (t := 0) dc_X7_over_11 ml_RX7_192 ok_X7_beginTry rfl rfl (by decide) (Nat.le_of_ble_eq_true rfl) (by decide) (by decide) rfl rfl (wk_X7_beginTry _ _ hw) (fun M5 hw => ?_)
    refine gh_iconst (v := (nI 0)) dc_X7_over_14 gc_0 ?_
    refine gh_istore_n (L' := [some (vR 32 0), some (vI (nI 0))]) dc_X7_over_15 (by decide) rfl rfl ?_
    refine gh_drop (pc' := 0) [some (vR 32 0), some (vI (nI 0))] ⟨rfl, rfl, trivial⟩ ?_
    obtain ⟨k, hw⟩ := hw
    exact lk_X7_over_16  hE  k _ _ hw
  · replace hw := hw.2 c3
    refine gh_ldc (v := (-1000002 : Int32)) dc_X7_over_7 tw_991 ?_
    exact gh_iret dc_X7_over_9 hE rfl hw
theorem lk_X7_bits_4 {wd : gh_Wd} {x : gh_X} {Q : Int32 → gh_M → Prop}   (hE : gh_E wd (gh_Qi Q) x)   : ∀ (n : Nat) (x0 : Int32) (x1 : Int32) (x2 : Int32) (M : gh_M), wl_X7_bits_4 Q n x0 x1 x2 M → gh_J mi_X7_bits 1 wd x M 4 [some (vI x0), some (vI x1), some (vI x2)] [] := by
  intro n
  induction n with
  | zero => intro x0 x1 x2 M hw; exact hw.elim
  | succ n ih =>
    intro x0 x1 x2 M hw
    unfold wl_X7_bits_4 at hw
    refine gh_iload_n dc_X7_bits_4 rfl ?_
    refine gh_bipush (v := (nI 12)) dc_X7_bits_5 gb_12 ?_
    refine gh_icmp_ge (tgt := 24) dc_X7_bits_7 rfl (fun c1 => ?_) (fun c1 => ?_)
    · replace hw := hw.1 c1
      refine gh_iload_n dc_X7_bits_24 rfl ?_
      exact gh_iret dc_X7_bits_25 hE rfl hw
    · replace hw := hw.2 c1
      refine gh_iload_n dc_X7_bits_10 rfl ?_
      refine gh_iload_n dc_X7_bits_11 rfl ?_
      refine gh_iload_n dc_X7_bits_12 rfl ?_
      refine gh_ishr dc_X7_bits_13 ?_
      refine gh_iconst (v := (nI 1)) dc_X7_bits_14 gc_1 ?_
      refine gh_iand dc_X7_bits_15 ?_
      refine gh_iadd dc_X7_bits_16 ?_
      obtain ⟨y1_2, ey1_2⟩ : ∃ z, z = (x1 + ((x0 >>> (x2 &&& 31)) &&& (nI 1))) := ⟨_, rfl⟩
      rw [← ey1_2]
      replace hw := hw _ ey1_2
      refine gh_istore_n (L' := [some (vI x0), some (vI y1_2), some (vI x2)]) dc_X7_bits_17 (by decide) rfl rfl ?_
      obtain ⟨y2_3, ey2_3⟩ : ∃ z, z = (x2 + (nI 1)) := ⟨_, rfl⟩
      replace hw := hw _ ey2_3
      refine gh_iinc (v := y2_3) (L' := [some (vI x0), some (vI y1_2), some (vI y2_3)]) dc_X7_bits_18 rfl ((congrArg (fun z => x2 + z) gc_1).trans ey2_3.symm) (by decide) rfl rfl ?_
      refine gh_goto (tgt := 4) dc_X7_bits_21 rfl ?_
      refine gh_drop (pc' := 0) [some (vI x0), some (vI y1_2), some (vI y2_3)] ⟨rfl, rfl, rfl, trivial⟩ ?_
      exact ih _ _ _ _ hw
theorem wk_X7_bits   (Q : Int32 → gh_M → Prop) (a0 : Int32) (M : gh_M) (hw : wp_X7_bits  a0 M Q) : gh_Calls 1 mi_X7_bits [vI a0] M (gh_Qi Q) := by
  refine gh_of (by decide) rfl 2 rfl (L0 := [some (vI a0), none, none]) rfl (fun wd x hE => ?_)
  unfold wp_X7_bits at hw
  refine gh_iconst (v := (nI 0)) dc_X7_bits_0 gc_0 ?_
  refine gh_istore_n (L' := [some (vI a0), some (vI (nI 0)), none]) dc_X7_bits_1 (by decide) rfl rfl ?_
  refine gh_iconst (v := (nI 0)) dc_X7_bits_2 gc_0 ?_
  refine gh_istore_n (L' := [some (vI a0), some (vI (nI 0)), some (vI (nI 0))]) dc_X7_bits_3 (by decide) rfl rfl ?_
  refine gh_drop (pc' := 0) [some (vI a0), some (vI (nI 0)), some (vI (nI 0))] ⟨rfl, rfl, rfl, trivial⟩ ?_
  obtain ⟨k, hw⟩ := hw
  exact lk_X7_bits_4  hE  k _ _ _ _ hw
theorem lk_X7_valueOfOrder_6 {wd : gh_Wd} {x : gh_X} {Q : Int32 → gh_M → Prop}   (hE : gh_E wd (gh_Qi Q) x)   : ∀ (n : Nat) (x1 : Int32) (x2 : Int32) (M : gh_M), wl_X7_valueOfOrder_6 Q n x1 x2 M → gh_J mi_X7_valueOfOrder 8 wd x M 6 [some (vR 32 0), some (vI x1), some (vI x2)] [] := by
  intro n
  induction n with
  | zero => intro x1 x2 M hw; exact hw.elim
  | succ n ih =>
    intro x1 x2 M hw
    unfold wl_X7_valueOfOrder_6 at hw
    refine gh_iload_n dc_X7_valueOfOrder_6 rfl ?_
    refine gh_bipush (v := (nI 6)) dc_X7_valueOfOrder_7 gb_6 ?_
    refine gh_icmp_ge (tgt := 30) dc_X7_valueOfOrder_9 rfl (fun c3 => ?_) (fun c3 => ?_)
    · replace hw := hw.1 c3
      refine gh_aload_n dc_X7_valueOfOrder_30 rfl ?_
      refine gh_iload_n dc_X7_valueOfOrder_31 rfl ?_
      refine gh_callVv (mi' := mi_X7_goOn) (as := [vI x1]) (S := []) (k := 32) (t := 0) dc_X7_valueOfOrder_32 ml_RX7_195 ok_X7_goOn rfl rfl (by decide) (Nat.le_of_ble_eq_true rfl) (by decide) (by decide) rfl rfl (wk_X7_goOn _ _ _ hw) (fun M5 hw => ?_)
      refine gh_bipush (v := (nI 10)) dc_X7_valueOfOrder_35 gb_10 ?_
      refine gh_aload_n dc_X7_valueOfOrder_37 rfl ?_
      refine gh_sipush (v := (nI 1917)) dc_X7_valueOfOrder_38 gs_1917 ?_
      refine gh_iconst (v := (nI 5)) dc_X7_valueOfOrder_41 gc_5 ?_
      refine gh_callVi (mi' := mi_X7_sumOf) (as := [vI (nI 1917), vI (nI 5)]) (S := [vI (nI 10)]) (k := 32) (t := 0) dc_X7_valueOfOrder_42 ml_RX7_198 ok_X7_sumOf rfl rfl (by decide) (Nat.le_of_ble_eq_true rfl) (by decide) (by decide) rfl rfl (wk_X7_sumOf _ _ _ _ hw) (fun r6 M7 hw => ?_)
      refine gh_imul dc_X7_valueOfOrder_45 ?_
      refine gh_aload_n dc_X7_valueOfOrder_46 rfl ?_
      refine gh_sipush (v := (nI 1917)) dc_X7_valueOfOrder_47 gs_1917 ?_
      refine gh_iconst (v := (nI 3)) dc_X7_valueOfOrder_50 gc_3 ?_
      refine gh_callVi (mi' := mi_X7_carsThat) (as := [vI (nI 1917), vI (nI 3)]) (S := [vI ((nI 10) * r6)]) (k := 32) (t := 0) dc_X7_valueOfOrder_51 ml_RX7_171 ok_X7_carsThat rfl rfl (by decide) (Nat.le_of_ble_eq_true rfl) (by decide) (by decide) rfl rfl (wk_X7_carsThat _ _ _ _ hw) (fun r8 M9 hw => ?_)
      refine gh_callSi (mi' := mi_X7_bits) (as := [vI r8]) (S := [vI ((nI 10) * r6)]) dc_X7_valueOfOrder_54 ml_RX7_207 ok_X7_bits rfl rfl (by decide) (Nat.le_of_ble_eq_true rfl) (wk_X7_bits _ _ _ hw) (fun r10 M11 hw => ?_)
      refine gh_iadd dc_X7_valueOfOrder_57 ?_
      exact gh_iret dc_X7_valueOfOrder_58 hE rfl hw
    · replace hw := hw.2 c3
      refine gh_aload_n dc_X7_valueOfOrder_12 rfl ?_
      refine gh_getR (k := 32) (t := 0) dc_X7_valueOfOrder_13 fl_RX7_13 (by decide) (by decide) rfl rfl ?_
      refine gh_iload_n dc_X7_valueOfOrder_16 rfl ?_
      refine gh_aload_n dc_X7_valueOfOrder_17 rfl ?_
      refine gh_getR (k := 32) (t := 0) dc_X7_valueOfOrder_18 fl_RX7_37 (by decide) (by decide) rfl rfl ?_
      refine gh_iload_n dc_X7_valueOfOrder_21 rfl ?_
      obtain ⟨h12, hw⟩ := hw
      refine gh_iald (k := 42) (t := 0) dc_X7_valueOfOrder_22 rfl (by decide) (by decide) h12 ?_
      obtain ⟨h13, hw⟩ := hw
      refine gh_iast (k := 34) (t := 0) dc_X7_valueOfOrder_23 rfl (by decide) (by decide) h13 ?_
      obtain ⟨M14, eM14⟩ : ∃ z, z = (gh_st M 34 0 x2.toNatClampNeg (M 42 0 x2.toNatClampNeg)) := ⟨_, rfl⟩
      rw [← eM14]
      replace hw := hw _ eM14
      obtain ⟨y2_15, ey2_15⟩ : ∃ z, z = (x2 + (nI 1)) := ⟨_, rfl⟩
      replace hw := hw _ ey2_15
      refine gh_iinc (v := y2_15) (L' := [some (vR 32 0), some (vI x1), some (vI y2_15)]) dc_X7_valueOfOrder_24 rfl ((congrArg (fun z => x2 + z) gc_1).trans ey2_15.symm) (by decide) rfl rfl ?_
      refine gh_goto (tgt := 6) dc_X7_valueOfOrder_27 rfl ?_
      refine gh_drop (pc' := 0) [some (vR 32 0), some (vI x1), some (vI y2_15)] ⟨rfl, rfl, rfl, trivial⟩ ?_
      exact ih _ _ _ hw
theorem wk_X7_valueOfOrder   (Q : Int32 → gh_M → Prop) (a0 : Int32) (M : gh_M) (hw : wp_X7_valueOfOrder  a0 M Q) : gh_Calls 8 mi_X7_valueOfOrder [vR 32 0, vI a0] M (gh_Qi Q) := by
  refine gh_of (by decide) rfl 1 rfl (L0 := [some (vR 32 0), some (vI a0), none]) rfl (fun wd x hE => ?_)
  unfold wp_X7_valueOfOrder at hw
  refine gh_aload_n dc_X7_valueOfOrder_0 rfl ?_
  refine gh_callVv (mi' := mi_X7_beginTry) (as := []) (S := []) (k := 32) (t := 0) dc_X7_valueOfOrder_1 ml_RX7_192 ok_X7_beginTry rfl rfl (by decide) (Nat.le_of_ble_eq_true rfl) (by decide) (by decide) rfl rfl (wk_X7_beginTry _ _ hw) (fun M2 hw => ?_)
  refine gh_iconst (v := (nI 0)) dc_X7_valueOfOrder_4 gc_0 ?_
  refine gh_istore_n (L' := [some (vR 32 0), some (vI a0), some (vI (nI 0))]) dc_X7_valueOfOrder_5 (by decide) rfl rfl ?_
  refine gh_drop (pc' := 0) [some (vR 32 0), some (vI a0), some (vI (nI 0))] ⟨rfl, rfl, rfl, trivial⟩ ?_
  obtain ⟨k, hw⟩ := hw
  exact lk_X7_valueOfOrder_6  hE  k _ _ _ hw
theorem lk_X7_nextOrder_100 {wd : gh_Wd} {x : gh_X} {Q : Int32 → gh_M → Prop}   (hE : gh_E wd (gh_Qi Q) x)   : ∀ (n : Nat) (x5 : Int32) (x6 : Int32) (M : gh_M), wl_X7_nextOrder_100 Q n x5 x6 M → gh_J mi_X7_nextOrder 1 wd x M 100 [some (vR 32 0), none, none, none, none, some (vI x5), some (vI x6)] [] := by
  intro n
  induction n with
  | zero => intro x5 x6 M hw; exact hw.elim
  | succ n ih =>
    intro x5 x6 M hw
    unfold wl_X7_nextOrder_100 at hw
    refine gh_iload dc_X7_nextOrder_100 rfl ?_
    refine gh_iload dc_X7_nextOrder_102 rfl ?_
    refine gh_icmp_ge (tgt := 148) dc_X7_nextOrder_104 rfl (fun c17 => ?_) (fun c17 => ?_)
    · replace hw := hw.1 c17
      refine gh_iconst (v := (nI 1)) dc_X7_nextOrder_148 gc_1 ?_
      exact gh_zret dc_X7_nextOrder_149 hE rfl (by decide) hw
    · replace hw := hw.2 c17
      refine gh_aload_n dc_X7_nextOrder_107 rfl ?_
      refine gh_getR (k := 32) (t := 0) dc_X7_nextOrder_108 fl_RX7_37 (by decide) (by decide) rfl rfl ?_
      refine gh_iload dc_X7_nextOrder_111 rfl ?_
      obtain ⟨h18, hw⟩ := hw
      refine gh_iald (k := 42) (t := 0) dc_X7_nextOrder_113 rfl (by decide) (by decide) h18 ?_
      obtain ⟨y4_19, ey4_19⟩ : ∃ z, z = (M 42 0 x5.toNatClampNeg) := ⟨_, rfl⟩
      rw [← ey4_19]
      replace hw := hw _ ey4_19
      refine gh_istore (L' := [some (vR 32 0), none, none, none, some (vI y4_19), some (vI x5), some (vI x6)]) dc_X7_nextOrder_114 (by decide) rfl rfl ?_
      refine gh_aload_n dc_X7_nextOrder_116 rfl ?_
      refine gh_getR (k := 32) (t := 0) dc_X7_nextOrder_117 fl_RX7_37 (by decide) (by decide) rfl rfl ?_
      refine gh_iload dc_X7_nextOrder_120 rfl ?_
      refine gh_aload_n dc_X7_nextOrder_122 rfl ?_
      refine gh_getR (k := 32) (t := 0) dc_X7_nextOrder_123 fl_RX7_37 (by decide) (by decide) rfl rfl ?_
      refine gh_iload dc_X7_nextOrder_126 rfl ?_
      obtain ⟨h20, hw⟩ := hw
      refine gh_iald (k := 42) (t := 0) dc_X7_nextOrder_128 rfl (by decide) (by decide) h20 ?_
      obtain ⟨h21, hw⟩ := hw
      refine gh_iast (k := 42) (t := 0) dc_X7_nextOrder_129 rfl (by decide) (by decide) h21 ?_
      obtain ⟨M22, eM22⟩ : ∃ z, z = (gh_st M 42 0 x5.toNatClampNeg (M 42 0 x6.toNatClampNeg)) := ⟨_, rfl⟩
      rw [← eM22]
      replace hw := hw _ eM22
      refine gh_aload_n dc_X7_nextOrder_130 rfl ?_
      refine gh_getR (k := 32) (t := 0) dc_X7_nextOrder_131 fl_RX7_37 (by decide) (by decide) rfl rfl ?_
      refine gh_iload dc_X7_nextOrder_134 rfl ?_
      refine gh_iload dc_X7_nextOrder_136 rfl ?_
      obtain ⟨h23, hw⟩ := hw
      refine gh_iast (k := 42) (t := 0) dc_X7_nextOrder_138 rfl (by decide) (by decide) h23 ?_
      obtain ⟨M24, eM24⟩ : ∃ z, z = (gh_st M22 42 0 x6.toNatClampNeg y4_19) := ⟨_, rfl⟩
      rw [← eM24]
      replace hw := hw _ eM24
      obtain ⟨y5_25, ey5_25⟩ : ∃ z, z = (x5 + (nI 1)) := ⟨_, rfl⟩
      replace hw := hw _ ey5_25
      refine gh_iinc (v := y5_25) (L' := [some (vR 32 0), none, none, none, some (vI y4_19), some (vI y5_25), some (vI x6)]) dc_X7_nextOrder_139 rfl ((congrArg (fun z => x5 + z) gc_1).trans ey5_25.symm) (by decide) rfl rfl ?_
      obtain ⟨y6_26, ey6_26⟩ : ∃ z, z = (x6 + (-1 : Int32)) := ⟨_, rfl⟩
      replace hw := hw _ ey6_26
      refine gh_iinc (v := y6_26) (L' := [some (vR 32 0), none, none, none, some (vI y4_19), some (vI y5_25), some (vI y6_26)]) dc_X7_nextOrder_142 rfl ((congrArg (fun z => x6 + z) gc_m1).trans ey6_26.symm) (by decide) rfl rfl ?_
      refine gh_goto (tgt := 100) dc_X7_nextOrder_145 rfl ?_
      refine gh_drop (pc' := 0) [some (vR 32 0), none, none, none, none, some (vI y5_25), some (vI y6_26)] ⟨rfl, rfl, rfl, trivial⟩ ?_
      exact ih _ _ _ hw
theorem lk_X7_nextOrder_41 {wd : gh_Wd} {x : gh_X} {Q : Int32 → gh_M → Prop}   (hE : gh_E wd (gh_Qi Q) x)   : ∀ (n : Nat) (x1 : Int32) (x2 : Int32) (x3 : Int32) (M : gh_M), wl_X7_nextOrder_41 Q n x1 x2 x3 M → gh_J mi_X7_nextOrder 1 wd x M 41 [some (vR 32 0), some (vI x1), some (vI x2), some (vI x3), none, none, none] [] := by
  intro n
  induction n with
  | zero => intro x1 x2 x3 M hw; exact hw.elim
  | succ n ih =>
    intro x1 x2 x3 M hw
    unfold wl_X7_nextOrder_41 at hw
    refine gh_aload_n dc_X7_nextOrder_41 rfl ?_
    refine gh_getR (k := 32) (t := 0) dc_X7_nextOrder_42 fl_RX7_37 (by decide) (by decide) rfl rfl ?_
    refine gh_iload_n dc_X7_nextOrder_45 rfl ?_
    obtain ⟨h5, hw⟩ := hw
    refine gh_iald (k := 42) (t := 0) dc_X7_nextOrder_46 rfl (by decide) (by decide) h5 ?_
    refine gh_aload_n dc_X7_nextOrder_47 rfl ?_
    refine gh_getR (k := 32) (t := 0) dc_X7_nextOrder_48 fl_RX7_37 (by decide) (by decide) rfl rfl ?_
    refine gh_iload_n dc_X7_nextOrder_51 rfl ?_
    obtain ⟨h6, hw⟩ := hw
    refine gh_iald (k := 42) (t := 0) dc_X7_nextOrder_52 rfl (by decide) (by decide) h6 ?_
    refine gh_icmp_ge (tgt := 62) dc_X7_nextOrder_53 rfl (fun c7 => ?_) (fun c7 => ?_)
    · replace hw := hw.1 c7
      refine gh_aload_n dc_X7_nextOrder_62 rfl ?_
      refine gh_getR (k := 32) (t := 0) dc_X7_nextOrder_63 fl_RX7_37 (by decide) (by decide) rfl rfl ?_
      refine gh_iload_n dc_X7_nextOrder_66 rfl ?_
      obtain ⟨h8, hw⟩ := hw
      refine gh_iald (k := 42) (t := 0) dc_X7_nextOrder_67 rfl (by decide) (by decide) h8 ?_
      obtain ⟨y4_9, ey4_9⟩ : ∃ z, z = (M 42 0 x2.toNatClampNeg) := ⟨_, rfl⟩
      rw [← ey4_9]
      replace hw := hw _ ey4_9
      refine gh_istore (L' := [some (vR 32 0), some (vI x1), some (vI x2), some (vI x3), some (vI y4_9), none, none]) dc_X7_nextOrder_68 (by decide) rfl rfl ?_
      refine gh_aload_n dc_X7_nextOrder_70 rfl ?_
      refine gh_getR (k := 32) (t := 0) dc_X7_nextOrder_71 fl_RX7_37 (by decide) (by decide) rfl rfl ?_
      refine gh_iload_n dc_X7_nextOrder_74 rfl ?_
      refine gh_aload_n dc_X7_nextOrder_75 rfl ?_
      refine gh_getR (k := 32) (t := 0) dc_X7_nextOrder_76 fl_RX7_37 (by decide) (by decide) rfl rfl ?_
      refine gh_iload_n dc_X7_nextOrder_79 rfl ?_
      obtain ⟨h10, hw⟩ := hw
      refine gh_iald (k := 42) (t := 0) dc_X7_nextOrder_80 rfl (by decide) (by decide) h10 ?_
      obtain ⟨h11, hw⟩ := hw
      refine gh_iast (k := 42) (t := 0) dc_X7_nextOrder_81 rfl (by decide) (by decide) h11 ?_
      obtain ⟨M12, eM12⟩ : ∃ z, z = (gh_st M 42 0 x2.toNatClampNeg (M 42 0 x3.toNatClampNeg)) := ⟨_, rfl⟩
      rw [← eM12]
      replace hw := hw _ eM12
      refine gh_aload_n dc_X7_nextOrder_82 rfl ?_
      refine gh_getR (k := 32) (t := 0) dc_X7_nextOrder_83 fl_RX7_37 (by decide) (by decide) rfl rfl ?_
      refine gh_iload_n dc_X7_nextOrder_86 rfl ?_
      refine gh_iload dc_X7_nextOrder_87 rfl ?_
      obtain ⟨h13, hw⟩ := hw
      refine gh_iast (k := 42) (t := 0) dc_X7_nextOrder_89 rfl (by decide) (by decide) h13 ?_
      obtain ⟨M14, eM14⟩ : ∃ z, z = (gh_st M12 42 0 x3.toNatClampNeg y4_9) := ⟨_, rfl⟩
      rw [← eM14]
      replace hw := hw _ eM14
      refine gh_iload_n dc_X7_nextOrder_90 rfl ?_
      refine gh_iconst (v := (nI 1)) dc_X7_nextOrder_91 gc_1 ?_
      refine gh_iadd dc_X7_nextOrder_92 ?_
      obtain ⟨y5_15, ey5_15⟩ : ∃ z, z = (x2 + (nI 1)) := ⟨_, rfl⟩
      rw [← ey5_15]
      replace hw := hw _ ey5_15
      refine gh_istore (L' := [some (vR 32 0), some (vI x1), some (vI x2), some (vI x3), some (vI y4_9), some (vI y5_15), none]) dc_X7_nextOrder_93 (by decide) rfl rfl ?_
      refine gh_iload_n dc_X7_nextOrder_95 rfl ?_
      refine gh_iconst (v := (nI 1)) dc_X7_nextOrder_96 gc_1 ?_
      refine gh_isub dc_X7_nextOrder_97 ?_
      obtain ⟨y6_16, ey6_16⟩ : ∃ z, z = (x1 - (nI 1)) := ⟨_, rfl⟩
      rw [← ey6_16]
      replace hw := hw _ ey6_16
      refine gh_istore (L' := [some (vR 32 0), some (vI x1), some (vI x2), some (vI x3), some (vI y4_9), some (vI y5_15), some (vI y6_16)]) dc_X7_nextOrder_98 (by decide) rfl rfl ?_
      refine gh_drop (pc' := 0) [some (vR 32 0), none, none, none, none, some (vI y5_15), some (vI y6_16)] ⟨rfl, rfl, rfl, trivial⟩ ?_
      obtain ⟨k, hw⟩ := hw
      exact lk_X7_nextOrder_100  hE  k _ _ _ hw
    · replace hw := hw.2 c7
      obtain ⟨y3_27, ey3_27⟩ : ∃ z, z = (x3 + (-1 : Int32)) := ⟨_, rfl⟩
      replace hw := hw _ ey3_27
      refine gh_iinc (v := y3_27) (L' := [some (vR 32 0), some (vI x1), some (vI x2), some (vI y3_27), none, none, none]) dc_X7_nextOrder_56 rfl ((congrArg (fun z => x3 + z) gc_m1).trans ey3_27.symm) (by decide) rfl rfl ?_
      refine gh_goto (tgt := 41) dc_X7_nextOrder_59 rfl ?_
      refine gh_drop (pc' := 0) [some (vR 32 0), some (vI x1), some (vI x2), some (vI y3_27), none, none, none] ⟨rfl, rfl, rfl, rfl, trivial⟩ ?_
      exact ih _ _ _ _ hw
theorem lk_X7_nextOrder_4 {wd : gh_Wd} {x : gh_X} {Q : Int32 → gh_M → Prop}   (hE : gh_E wd (gh_Qi Q) x)   : ∀ (n : Nat) (x1 : Int32) (x2 : Int32) (M : gh_M), wl_X7_nextOrder_4 Q n x1 x2 M → gh_J mi_X7_nextOrder 1 wd x M 4 [some (vR 32 0), some (vI x1), some (vI x2), none, none, none, none] [] := by
  intro n
  induction n with
  | zero => intro x1 x2 M hw; exact hw.elim
  | succ n ih =>
    intro x1 x2 M hw
    unfold wl_X7_nextOrder_4 at hw
    refine gh_iload_n dc_X7_nextOrder_4 rfl ?_
    refine gh_if_lt (tgt := 31) dc_X7_nextOrder_5 rfl (fun c2 => ?_) (fun c2 => ?_)
    · replace hw := hw.1 c2
      refine gh_iload_n dc_X7_nextOrder_31 rfl ?_
      refine gh_if_ge (tgt := 37) dc_X7_nextOrder_32 rfl (fun c3 => ?_) (fun c3 => ?_)
      · replace hw := hw.1 c3
        refine gh_iload_n dc_X7_nextOrder_37 rfl ?_
        refine gh_iconst (v := (nI 1)) dc_X7_nextOrder_38 gc_1 ?_
        refine gh_isub dc_X7_nextOrder_39 ?_
        obtain ⟨y3_4, ey3_4⟩ : ∃ z, z = (x1 - (nI 1)) := ⟨_, rfl⟩
        rw [← ey3_4]
        replace hw := hw _ ey3_4
        refine gh_istore_n (L' := [some (vR 32 0), some (vI x1), some (vI x2), some (vI y3_4), none, none, none]) dc_X7_nextOrder_40 (by decide) rfl rfl ?_
        refine gh_drop (pc' := 0) [some (vR 32 0), some (vI x1), some (vI x2), some (vI y3_4), none, none, none] ⟨rfl, rfl, rfl, rfl, trivial⟩ ?_
        obtain ⟨k, hw⟩ := hw
        exact lk_X7_nextOrder_41  hE  k _ _ _ _ hw
      · replace hw := hw.2 c3
        refine gh_iconst (v := (nI 0)) dc_X7_nextOrder_35 gc_0 ?_
        exact gh_zret dc_X7_nextOrder_36 hE rfl (by decide) hw
    · replace hw := hw.2 c2
      refine gh_aload_n dc_X7_nextOrder_8 rfl ?_
      refine gh_getR (k := 32) (t := 0) dc_X7_nextOrder_9 fl_RX7_37 (by decide) (by decide) rfl rfl ?_
      refine gh_iload_n dc_X7_nextOrder_12 rfl ?_
      obtain ⟨h28, hw⟩ := hw
      refine gh_iald (k := 42) (t := 0) dc_X7_nextOrder_13 rfl (by decide) (by decide) h28 ?_
      refine gh_aload_n dc_X7_nextOrder_14 rfl ?_
      refine gh_getR (k := 32) (t := 0) dc_X7_nextOrder_15 fl_RX7_37 (by decide) (by decide) rfl rfl ?_
      refine gh_iload_n dc_X7_nextOrder_18 rfl ?_
      refine gh_iconst (v := (nI 1)) dc_X7_nextOrder_19 gc_1 ?_
      refine gh_iadd dc_X7_nextOrder_20 ?_
      obtain ⟨h29, hw⟩ := hw
      refine gh_iald (k := 42) (t := 0) dc_X7_nextOrder_21 rfl (by decide) (by decide) h29 ?_
      refine gh_icmp_le (tgt := 31) dc_X7_nextOrder_22 rfl (fun c30 => ?_) (fun c30 => ?_)
      · replace hw := hw.1 c30
        refine gh_iload_n dc_X7_nextOrder_31 rfl ?_
        refine gh_if_ge (tgt := 37) dc_X7_nextOrder_32 rfl (fun c31 => ?_) (fun c31 => ?_)
        · replace hw := hw.1 c31
          refine gh_iload_n dc_X7_nextOrder_37 rfl ?_
          refine gh_iconst (v := (nI 1)) dc_X7_nextOrder_38 gc_1 ?_
          refine gh_isub dc_X7_nextOrder_39 ?_
          obtain ⟨y3_32, ey3_32⟩ : ∃ z, z = (x1 - (nI 1)) := ⟨_, rfl⟩
          rw [← ey3_32]
          replace hw := hw _ ey3_32
          refine gh_istore_n (L' := [some (vR 32 0), some (vI x1), some (vI x2), some (vI y3_32), none, none, none]) dc_X7_nextOrder_40 (by decide) rfl rfl ?_
          refine gh_drop (pc' := 0) [some (vR 32 0), some (vI x1), some (vI x2), some (vI y3_32), none, none, none] ⟨rfl, rfl, rfl, rfl, trivial⟩ ?_
          obtain ⟨k, hw⟩ := hw
          exact lk_X7_nextOrder_41  hE  k _ _ _ _ hw
        · replace hw := hw.2 c31
          refine gh_iconst (v := (nI 0)) dc_X7_nextOrder_35 gc_0 ?_
          exact gh_zret dc_X7_nextOrder_36 hE rfl (by decide) hw
      · replace hw := hw.2 c30
        obtain ⟨y2_33, ey2_33⟩ : ∃ z, z = (x2 + (-1 : Int32)) := ⟨_, rfl⟩
        replace hw := hw _ ey2_33
        refine gh_iinc (v := y2_33) (L' := [some (vR 32 0), some (vI x1), some (vI y2_33), none, none, none, none]) dc_X7_nextOrder_25 rfl ((congrArg (fun z => x2 + z) gc_m1).trans ey2_33.symm) (by decide) rfl rfl ?_
        refine gh_goto (tgt := 4) dc_X7_nextOrder_28 rfl ?_
        refine gh_drop (pc' := 0) [some (vR 32 0), some (vI x1), some (vI y2_33), none, none, none, none] ⟨rfl, rfl, rfl, trivial⟩ ?_
        exact ih _ _ _ hw
theorem wk_X7_nextOrder   (Q : Int32 → gh_M → Prop) (a0 : Int32) (M : gh_M) (hw : wp_X7_nextOrder  a0 M Q) : gh_Calls 1 mi_X7_nextOrder [vR 32 0, vI a0] M (gh_Qi Q) := by
  refine gh_of (by decide) rfl 5 rfl (L0 := [some (vR 32 0), some (vI a0), none, none, none, none, none]) rfl (fun wd x hE => ?_)
  unfold wp_X7_nextOrder at hw
  refine gh_iload_n dc_X7_nextOrder_0 rfl ?_
  refine gh_iconst (v := (nI 2)) dc_X7_nextOrder_1 gc_2 ?_
  refine gh_isub dc_X7_nextOrder_2 ?_
  obtain ⟨y2_1, ey2_1⟩ : ∃ z, z = (a0 - (nI 2)) := ⟨_, rfl⟩
  rw [← ey2_1]
  replace hw := hw _ ey2_1
  refine gh_istore_n (L' := [some (vR 32 0), some (vI a0), some (vI y2_1), none, none, none, none]) dc_X7_nextOrder_3 (by decide) rfl rfl ?_
  refine gh_drop (pc' := 0) [some (vR 32 0), some (vI a0), some (vI y2_1), none, none, none, none] ⟨rfl, rfl, rfl, trivial⟩ ?_
  obtain ⟨k, hw⟩ := hw
  exact lk_X7_nextOrder_4  hE  k _ _ _ hw
theorem lk_X7_order_78 {wd : gh_Wd} {x : gh_X} {Q : Int32 → gh_M → Prop}   (hE : gh_E wd (gh_Qi Q) x) {K54 : Int32 → Int32 → Int32 → Int32 → gh_M → Prop} (hK54 : ∀ (v1 : Int32) (v2 : Int32) (v3 : Int32) (v4 : Int32) (m : gh_M), K54 v1 v2 v3 v4 m → gh_J mi_X7_order 9 wd x m 54 [some (vR 32 0), some (vI v1), some (vI v2), some (vI v3), some (vI v4), none, none] []) : ∀ (n : Nat) (x1 : Int32) (x2 : Int32) (x3 : Int32) (x6 : Int32) (M : gh_M), wl_X7_order_78 Q K54 n x1 x2 x3 x6 M → gh_J mi_X7_order 9 wd x M 78 [some (vR 32 0), some (vI x1), some (vI x2), some (vI x3), none, none, some (vI x6)] [] := by
  intro n
  induction n with
  | zero => intro x1 x2 x3 x6 M hw; exact hw.elim
  | succ n ih =>
    intro x1 x2 x3 x6 M hw
    unfold wl_X7_order_78 at hw
    refine gh_iload dc_X7_order_78 rfl ?_
    refine gh_bipush (v := (nI 6)) dc_X7_order_80 gb_6 ?_
    refine gh_icmp_ge (tgt := 105) dc_X7_order_82 rfl (fun c21 => ?_) (fun c21 => ?_)
    · replace hw := hw.1 c21
      refine gh_aload_n dc_X7_order_105 rfl ?_
      refine gh_aload_n dc_X7_order_106 rfl ?_
      refine gh_getR (k := 32) (t := 0) dc_X7_order_107 fl_RX7_7 (by decide) (by decide) rfl rfl ?_
      refine gh_iconst (v := (nI 2)) dc_X7_order_110 gc_2 ?_
      obtain ⟨h22, hw⟩ := hw
      refine gh_iald (k := 33) (t := 0) dc_X7_order_111 rfl (by decide) (by decide) h22 ?_
      refine gh_callVi (mi' := mi_X7_nextOrder) (as := [vI (M 33 0 (nI 2).toNatClampNeg)]) (S := []) (k := 32) (t := 0) dc_X7_order_112 ml_RX7_213 ok_X7_nextOrder rfl rfl (by decide) (Nat.le_of_ble_eq_true rfl) (by decide) (by decide) rfl rfl (wk_X7_nextOrder _ _ _ hw) (fun r23 M24 hw => ?_)
      refine gh_istore (L' := [some (vR 32 0), some (vI x1), some (vI x2), some (vI x3), some (vI r23), none, some (vI x6)]) dc_X7_order_115 (by decide) rfl rfl ?_
      refine gh_goto (tgt := 54) dc_X7_order_117 rfl ?_
      refine gh_drop (pc' := 0) [some (vR 32 0), some (vI x1), some (vI x2), some (vI x3), some (vI r23), none, none] ⟨rfl, rfl, rfl, rfl, rfl, trivial⟩ ?_
      exact hK54 _ _ _ _ _ hw
    · replace hw := hw.2 c21
      refine gh_aload_n dc_X7_order_85 rfl ?_
      refine gh_getR (k := 32) (t := 0) dc_X7_order_86 fl_RX7_16 (by decide) (by decide) rfl rfl ?_
      refine gh_iload dc_X7_order_89 rfl ?_
      refine gh_aload_n dc_X7_order_91 rfl ?_
      refine gh_getR (k := 32) (t := 0) dc_X7_order_92 fl_RX7_37 (by decide) (by decide) rfl rfl ?_
      refine gh_iload dc_X7_order_95 rfl ?_
      obtain ⟨h25, hw⟩ := hw
      refine gh_iald (k := 42) (t := 0) dc_X7_order_97 rfl (by decide) (by decide) h25 ?_
      obtain ⟨h26, hw⟩ := hw
      refine gh_iast (k := 35) (t := 0) dc_X7_order_98 rfl (by decide) (by decide) h26 ?_
      obtain ⟨M27, eM27⟩ : ∃ z, z = (gh_st M 35 0 x6.toNatClampNeg (M 42 0 x6.toNatClampNeg)) := ⟨_, rfl⟩
      rw [← eM27]
      replace hw := hw _ eM27
      obtain ⟨y6_28, ey6_28⟩ : ∃ z, z = (x6 + (nI 1)) := ⟨_, rfl⟩
      replace hw := hw _ ey6_28
      refine gh_iinc (v := y6_28) (L' := [some (vR 32 0), some (vI x1), some (vI x2), some (vI x3), none, none, some (vI y6_28)]) dc_X7_order_99 rfl ((congrArg (fun z => x6 + z) gc_1).trans ey6_28.symm) (by decide) rfl rfl ?_
      refine gh_goto (tgt := 78) dc_X7_order_102 rfl ?_
      refine gh_drop (pc' := 0) [some (vR 32 0), some (vI x1), some (vI x2), some (vI x3), none, none, some (vI y6_28)] ⟨rfl, rfl, rfl, rfl, rfl, trivial⟩ ?_
      exact ih _ _ _ _ _ hw
theorem lk_X7_order_54 {wd : gh_Wd} {x : gh_X} {Q : Int32 → gh_M → Prop}   (hE : gh_E wd (gh_Qi Q) x)   : ∀ (n : Nat) (x1 : Int32) (x2 : Int32) (x3 : Int32) (x4 : Int32) (M : gh_M), wl_X7_order_54 Q n x1 x2 x3 x4 M → gh_J mi_X7_order 9 wd x M 54 [some (vR 32 0), some (vI x1), some (vI x2), some (vI x3), some (vI x4), none, none] [] := by
  intro n
  induction n with
  | zero => intro x1 x2 x3 x4 M hw; exact hw.elim
  | succ n ih =>
    intro x1 x2 x3 x4 M hw
    unfold wl_X7_order_54 at hw
    refine gh_iload dc_X7_order_54 rfl ?_
    refine gh_if_eq (tgt := 120) dc_X7_order_56 rfl (fun c9 => ?_) (fun c9 => ?_)
    · replace hw := hw.1 c9
      refine gh_iload_n dc_X7_order_120 rfl ?_
      refine gh_if_ge (tgt := 131) dc_X7_order_121 rfl (fun c10 => ?_) (fun c10 => ?_)
      · replace hw := hw.1 c10
        refine gh_iload_n dc_X7_order_131 rfl ?_
        refine gh_aload_n dc_X7_order_132 rfl ?_
        refine gh_getR (k := 32) (t := 0) dc_X7_order_133 fl_RX7_7 (by decide) (by decide) rfl rfl ?_
        refine gh_iconst (v := (nI 2)) dc_X7_order_136 gc_2 ?_
        obtain ⟨h11, hw⟩ := hw
        refine gh_iald (k := 33) (t := 0) dc_X7_order_137 rfl (by decide) (by decide) h11 ?_
        refine gh_icmp_ge (tgt := 150) dc_X7_order_138 rfl (fun c12 => ?_) (fun c12 => ?_)
        · replace hw := hw.1 c12
          refine gh_ldc (v := (-1000000 : Int32)) dc_X7_order_150 tw_1016 ?_
          exact gh_iret dc_X7_order_152 hE rfl hw
        · replace hw := hw.2 c12
          refine gh_aload_n dc_X7_order_141 rfl ?_
          refine gh_getR (k := 32) (t := 0) dc_X7_order_142 fl_RX7_16 (by decide) (by decide) rfl rfl ?_
          refine gh_iload_n dc_X7_order_145 rfl ?_
          obtain ⟨h13, hw⟩ := hw
          refine gh_iald (k := 35) (t := 0) dc_X7_order_146 rfl (by decide) (by decide) h13 ?_
          refine gh_goto (tgt := 152) dc_X7_order_147 rfl ?_
          exact gh_iret dc_X7_order_152 hE rfl hw
      · replace hw := hw.2 c10
        refine gh_iload_n dc_X7_order_124 rfl ?_
        refine gh_bipush (v := (nI 10)) dc_X7_order_125 gb_10 ?_
        obtain ⟨h14, hw⟩ := hw
        refine gh_idiv dc_X7_order_127 h14 ?_
        refine gh_goto (tgt := 152) dc_X7_order_128 rfl ?_
        exact gh_iret dc_X7_order_152 hE rfl hw
    · replace hw := hw.2 c9
      refine gh_aload_n dc_X7_order_59 rfl ?_
      refine gh_iload_n dc_X7_order_60 rfl ?_
      refine gh_callVi (mi' := mi_X7_valueOfOrder) (as := [vI x1]) (S := []) (k := 32) (t := 0) dc_X7_order_61 ml_RX7_210 ok_X7_valueOfOrder rfl rfl (by decide) (Nat.le_of_ble_eq_true rfl) (by decide) (by decide) rfl rfl (wk_X7_valueOfOrder _ _ _ hw) (fun r15 M16 hw => ?_)
      refine gh_istore (L' := [some (vR 32 0), some (vI x1), some (vI x2), some (vI x3), some (vI x4), some (vI r15), none]) dc_X7_order_64 (by decide) rfl rfl ?_
      refine gh_iload dc_X7_order_66 rfl ?_
      refine gh_iload_n dc_X7_order_68 rfl ?_
      refine gh_icmp_le (tgt := 105) dc_X7_order_69 rfl (fun c17 => ?_) (fun c17 => ?_)
      · replace hw := hw.1 c17
        refine gh_aload_n dc_X7_order_105 rfl ?_
        refine gh_aload_n dc_X7_order_106 rfl ?_
        refine gh_getR (k := 32) (t := 0) dc_X7_order_107 fl_RX7_7 (by decide) (by decide) rfl rfl ?_
        refine gh_iconst (v := (nI 2)) dc_X7_order_110 gc_2 ?_
        obtain ⟨h18, hw⟩ := hw
        refine gh_iald (k := 33) (t := 0) dc_X7_order_111 rfl (by decide) (by decide) h18 ?_
        refine gh_callVi (mi' := mi_X7_nextOrder) (as := [vI (M16 33 0 (nI 2).toNatClampNeg)]) (S := []) (k := 32) (t := 0) dc_X7_order_112 ml_RX7_213 ok_X7_nextOrder rfl rfl (by decide) (Nat.le_of_ble_eq_true rfl) (by decide) (by decide) rfl rfl (wk_X7_nextOrder _ _ _ hw) (fun r19 M20 hw => ?_)
        refine gh_istore (L' := [some (vR 32 0), some (vI x1), some (vI x2), some (vI x3), some (vI r19), some (vI r15), none]) dc_X7_order_115 (by decide) rfl rfl ?_
        refine gh_goto (tgt := 54) dc_X7_order_117 rfl ?_
        refine gh_drop (pc' := 0) [some (vR 32 0), some (vI x1), some (vI x2), some (vI x3), some (vI r19), none, none] ⟨rfl, rfl, rfl, rfl, rfl, trivial⟩ ?_
        exact ih _ _ _ _ _ hw
      · replace hw := hw.2 c17
        refine gh_iload dc_X7_order_72 rfl ?_
        refine gh_istore_n (L' := [some (vR 32 0), some (vI x1), some (vI x2), some (vI r15), some (vI x4), some (vI r15), none]) dc_X7_order_74 (by decide) rfl rfl ?_
        refine gh_iconst (v := (nI 0)) dc_X7_order_75 gc_0 ?_
        refine gh_istore (L' := [some (vR 32 0), some (vI x1), some (vI x2), some (vI r15), some (vI x4), some (vI r15), some (vI (nI 0))]) dc_X7_order_76 (by decide) rfl rfl ?_
        refine gh_drop (pc' := 0) [some (vR 32 0), some (vI x1), some (vI x2), some (vI r15), none, none, some (vI (nI 0))] ⟨rfl, rfl, rfl, rfl, rfl, trivial⟩ ?_
        obtain ⟨k, hw⟩ := hw
        exact lk_X7_order_78  hE ih k _ _ _ _ _ hw
theorem lk_X7_order_30 {wd : gh_Wd} {x : gh_X} {Q : Int32 → gh_M → Prop}   (hE : gh_E wd (gh_Qi Q) x)   : ∀ (n : Nat) (x1 : Int32) (x2 : Int32) (x3 : Int32) (M : gh_M), wl_X7_order_30 Q n x1 x2 x3 M → gh_J mi_X7_order 9 wd x M 30 [some (vR 32 0), some (vI x1), some (vI x2), some (vI x3), none, none, none] [] := by
  intro n
  induction n with
  | zero => intro x1 x2 x3 M hw; exact hw.elim
  | succ n ih =>
    intro x1 x2 x3 M hw
    unfold wl_X7_order_30 at hw
    refine gh_iload_n dc_X7_order_30 rfl ?_
    refine gh_bipush (v := (nI 6)) dc_X7_order_31 gb_6 ?_
    refine gh_icmp_ge (tgt := 49) dc_X7_order_33 rfl (fun c8 => ?_) (fun c8 => ?_)
    · replace hw := hw.1 c8
      refine gh_iconst (v := (-1 : Int32)) dc_X7_order_49 gc_m1 ?_
      refine gh_istore_n (L' := [some (vR 32 0), some (vI x1), some (vI x2), some (vI (-1 : Int32)), none, none, none]) dc_X7_order_50 (by decide) rfl rfl ?_
      refine gh_iconst (v := (nI 1)) dc_X7_order_51 gc_1 ?_
      refine gh_istore (L' := [some (vR 32 0), some (vI x1), some (vI x2), some (vI (-1 : Int32)), some (vI (nI 1)), none, none]) dc_X7_order_52 (by decide) rfl rfl ?_
      refine gh_drop (pc' := 0) [some (vR 32 0), some (vI x1), some (vI x2), some (vI (-1 : Int32)), some (vI (nI 1)), none, none] ⟨rfl, rfl, rfl, rfl, rfl, trivial⟩ ?_
      obtain ⟨k, hw⟩ := hw
      exact lk_X7_order_54  hE  k _ _ _ _ _ hw
    · replace hw := hw.2 c8
      refine gh_aload_n dc_X7_order_36 rfl ?_
      refine gh_getR (k := 32) (t := 0) dc_X7_order_37 fl_RX7_37 (by decide) (by decide) rfl rfl ?_
      refine gh_iload_n dc_X7_order_40 rfl ?_
      refine gh_iload_n dc_X7_order_41 rfl ?_
      obtain ⟨h29, hw⟩ := hw
      refine gh_iast (k := 42) (t := 0) dc_X7_order_42 rfl (by decide) (by decide) h29 ?_
      obtain ⟨M30, eM30⟩ : ∃ z, z = (gh_st M 42 0 x3.toNatClampNeg x3) := ⟨_, rfl⟩
      rw [← eM30]
      replace hw := hw _ eM30
      obtain ⟨y3_31, ey3_31⟩ : ∃ z, z = (x3 + (nI 1)) := ⟨_, rfl⟩
      replace hw := hw _ ey3_31
      refine gh_iinc (v := y3_31) (L' := [some (vR 32 0), some (vI x1), some (vI x2), some (vI y3_31), none, none, none]) dc_X7_order_43 rfl ((congrArg (fun z => x3 + z) gc_1).trans ey3_31.symm) (by decide) rfl rfl ?_
      refine gh_goto (tgt := 30) dc_X7_order_46 rfl ?_
      refine gh_drop (pc' := 0) [some (vR 32 0), some (vI x1), some (vI x2), some (vI y3_31), none, none, none] ⟨rfl, rfl, rfl, rfl, trivial⟩ ?_
      exact ih _ _ _ _ hw
theorem wk_X7_order   (Q : Int32 → gh_M → Prop) (a0 : Int32) (a1 : Int32) (M : gh_M) (hw : wp_X7_order  a0 a1 M Q) : gh_Calls 9 mi_X7_order [vR 32 0, vI a0, vI a1] M (gh_Qi Q) := by
  refine gh_of (by decide) rfl 4 rfl (L0 := [some (vR 32 0), some (vI a0), some (vI a1), none, none, none, none]) rfl (fun wd x hE => ?_)
  unfold wp_X7_order at hw
  refine gh_aload_n dc_X7_order_0 rfl ?_
  refine gh_callVi (mi' := mi_X7_isTrain) (as := []) (S := []) (k := 32) (t := 0) dc_X7_order_1 ml_RX7_165 ok_X7_isTrain rfl rfl (by decide) (Nat.le_of_ble_eq_true rfl) (by decide) (by decide) rfl rfl (wk_X7_isTrain _ _ hw) (fun r1 M2 hw => ?_)
  refine gh_if_ne (tgt := 10) dc_X7_order_4 rfl (fun c3 => ?_) (fun c3 => ?_)
  · replace hw := hw.1 c3
    refine gh_iload_n dc_X7_order_10 rfl ?_
    refine gh_iconst (v := (nI 1)) dc_X7_order_11 gc_1 ?_
    refine gh_bipush (v := (nI 50)) dc_X7_order_12 gb_50 ?_
    refine gh_callSi (mi' := mi_X7_in) (as := [vI a0, vI (nI 1), vI (nI 50)]) (S := []) dc_X7_order_14 ml_RX7_51 ok_X7_in rfl rfl (by decide) (Nat.le_of_ble_eq_true rfl) (wk_X7_in _ _ _ _ _ hw) (fun r4 M5 hw => ?_)
    refine gh_if_eq (tgt := 25) dc_X7_order_17 rfl (fun c6 => ?_) (fun c6 => ?_)
    · replace hw := hw.1 c6
      refine gh_ldc (v := (-1000001 : Int32)) dc_X7_order_25 tw_898 ?_
      exact gh_iret dc_X7_order_27 hE rfl hw
    · replace hw := hw.2 c6
      refine gh_iload_n dc_X7_order_20 rfl ?_
      refine gh_iconst (v := (-1 : Int32)) dc_X7_order_21 gc_m1 ?_
      refine gh_icmp_ge (tgt := 28) dc_X7_order_22 rfl (fun c7 => ?_) (fun c7 => ?_)
      · replace hw := hw.1 c7
        refine gh_iconst (v := (nI 0)) dc_X7_order_28 gc_0 ?_
        refine gh_istore_n (L' := [some (vR 32 0), some (vI a0), some (vI a1), some (vI (nI 0)), none, none, none]) dc_X7_order_29 (by decide) rfl rfl ?_
        refine gh_drop (pc' := 0) [some (vR 32 0), some (vI a0), some (vI a1), some (vI (nI 0)), none, none, none] ⟨rfl, rfl, rfl, rfl, trivial⟩ ?_
        obtain ⟨k, hw⟩ := hw
        exact lk_X7_order_30  hE  k _ _ _ _ hw
      · replace hw := hw.2 c7
        refine gh_ldc (v := (-1000001 : Int32)) dc_X7_order_25 tw_898 ?_
        exact gh_iret dc_X7_order_27 hE rfl hw
  · replace hw := hw.2 c3
    refine gh_ldc (v := (-1000002 : Int32)) dc_X7_order_7 tw_991 ?_
    exact gh_iret dc_X7_order_9 hE rfl hw
theorem lk_X7_spot_39 {wd : gh_Wd} {x : gh_X} {Q : Int32 → gh_M → Prop}   (hE : gh_E wd (gh_Qi Q) x)   : ∀ (n : Nat) (x1 : Int32) (x2 : Int32) (x3 : Int32) (x4 : Int32) (x5 : Int32) (x6 : Int32) (M : gh_M), wl_X7_spot_39 Q n x1 x2 x3 x4 x5 x6 M → gh_J mi_X7_spot 8 wd x M 39 [some (vR 32 0), some (vI x1), some (vI x2), some (vI x3), some (vI x4), some (vI x5), some (vI x6), none] [] := by
  intro n
  induction n with
  | zero => intro x1 x2 x3 x4 x5 x6 M hw; exact hw.elim
  | succ n ih =>
    intro x1 x2 x3 x4 x5 x6 M hw
    unfold wl_X7_spot_39 at hw
    refine gh_iload dc_X7_spot_39 rfl ?_
    refine gh_aload_n dc_X7_spot_41 rfl ?_
    refine gh_getR (k := 32) (t := 0) dc_X7_spot_42 fl_RX7_7 (by decide) (by decide) rfl rfl ?_
    refine gh_iconst (v := (nI 0)) dc_X7_spot_45 gc_0 ?_
    obtain ⟨h10, hw⟩ := hw
    refine gh_iald (k := 33) (t := 0) dc_X7_spot_46 rfl (by decide) (by decide) h10 ?_
    refine gh_icmp_ge (tgt := 123) dc_X7_spot_47 rfl (fun c11 => ?_) (fun c11 => ?_)
    · replace hw := hw.1 c11
      refine gh_iload_n dc_X7_spot_123 rfl ?_
      refine gh_if_ne (tgt := 132) dc_X7_spot_124 rfl (fun c12 => ?_) (fun c12 => ?_)
      · replace hw := hw.1 c12
        refine gh_iload dc_X7_spot_132 rfl ?_
        exact gh_iret dc_X7_spot_134 hE rfl hw
      · replace hw := hw.2 c12
        refine gh_iload dc_X7_spot_127 rfl ?_
        refine gh_goto (tgt := 134) dc_X7_spot_129 rfl ?_
        exact gh_iret dc_X7_spot_134 hE rfl hw
    · replace hw := hw.2 c11
      refine gh_aload_n dc_X7_spot_50 rfl ?_
      refine gh_callVv (mi' := mi_X7_beginTry) (as := []) (S := []) (k := 32) (t := 0) dc_X7_spot_51 ml_RX7_192 ok_X7_beginTry rfl rfl (by decide) (Nat.le_of_ble_eq_true rfl) (by decide) (by decide) rfl rfl (wk_X7_beginTry _ _ hw) (fun M14 hw => ?_)
      refine gh_aload_n dc_X7_spot_54 rfl ?_
      refine gh_getR (k := 32) (t := 0) dc_X7_spot_55 fl_RX7_7 (by decide) (by decide) rfl rfl ?_
      refine gh_sipush (v := (nI 1917)) dc_X7_spot_58 gs_1917 ?_
      refine gh_iload_n dc_X7_spot_61 rfl ?_
      refine gh_callSi (mi' := mi_X7_trickAt) (as := [vI (nI 1917), vI x1]) (S := [vR 33 0]) dc_X7_spot_62 ml_RX7_98 ok_X7_trickAt rfl rfl (by decide) (Nat.le_of_ble_eq_true rfl) (wk_X7_trickAt _ _ _ _ hw) (fun r15 M16 hw => ?_)
      refine gh_iconst (v := (nI 1)) dc_X7_spot_65 gc_1 ?_
      refine gh_iadd dc_X7_spot_66 ?_
      refine gh_iload dc_X7_spot_67 rfl ?_
      obtain ⟨h17, hw⟩ := hw
      refine gh_iast (k := 33) (t := 0) dc_X7_spot_69 rfl (by decide) (by decide) h17 ?_
      obtain ⟨M18, eM18⟩ : ∃ z, z = (gh_st M16 33 0 (r15 + (nI 1)).toNatClampNeg x6) := ⟨_, rfl⟩
      rw [← eM18]
      replace hw := hw _ eM18
      refine gh_aload_n dc_X7_spot_70 rfl ?_
      refine gh_iload_n dc_X7_spot_71 rfl ?_
      refine gh_callVv (mi' := mi_X7_goOn) (as := [vI x2]) (S := []) (k := 32) (t := 0) dc_X7_spot_72 ml_RX7_195 ok_X7_goOn rfl rfl (by decide) (Nat.le_of_ble_eq_true rfl) (by decide) (by decide) rfl rfl (wk_X7_goOn _ _ _ hw) (fun M20 hw => ?_)
      refine gh_aload_n dc_X7_spot_75 rfl ?_
      refine gh_sipush (v := (nI 1917)) dc_X7_spot_76 gs_1917 ?_
      refine gh_iconst (v := (nI 5)) dc_X7_spot_79 gc_5 ?_
      refine gh_callVi (mi' := mi_X7_sumOf) (as := [vI (nI 1917), vI (nI 5)]) (S := []) (k := 32) (t := 0) dc_X7_spot_80 ml_RX7_198 ok_X7_sumOf rfl rfl (by decide) (Nat.le_of_ble_eq_true rfl) (by decide) (by decide) rfl rfl (wk_X7_sumOf _ _ _ _ hw) (fun r21 M22 hw => ?_)
      refine gh_istore (L' := [some (vR 32 0), some (vI x1), some (vI x2), some (vI x3), some (vI x4), some (vI x5), some (vI x6), some (vI r21)]) dc_X7_spot_83 (by decide) rfl rfl ?_
      refine gh_iload dc_X7_spot_85 rfl ?_
      refine gh_iload dc_X7_spot_87 rfl ?_
      refine gh_icmp_le (tgt := 97) dc_X7_spot_89 rfl (fun c23 => ?_) (fun c23 => ?_)
      · replace hw := hw.1 c23
        refine gh_iload dc_X7_spot_97 rfl ?_
        refine gh_istore (L' := [some (vR 32 0), some (vI x1), some (vI x2), some (vI x3), some (vI x4), some (vI x5), some (vI x6), some (vI r21)]) dc_X7_spot_99 (by decide) rfl rfl ?_
        refine gh_iload dc_X7_spot_101 rfl ?_
        refine gh_iload dc_X7_spot_103 rfl ?_
        refine gh_icmp_le (tgt := 113) dc_X7_spot_105 rfl (fun c24 => ?_) (fun c24 => ?_)
        · replace hw := hw.1 c24
          refine gh_iload dc_X7_spot_113 rfl ?_
          refine gh_istore (L' := [some (vR 32 0), some (vI x1), some (vI x2), some (vI x3), some (vI x4), some (vI x5), some (vI x6), some (vI r21)]) dc_X7_spot_115 (by decide) rfl rfl ?_
          obtain ⟨y6_25, ey6_25⟩ : ∃ z, z = (x6 + (nI 1)) := ⟨_, rfl⟩
          replace hw := hw _ ey6_25
          refine gh_iinc (v := y6_25) (L' := [some (vR 32 0), some (vI x1), some (vI x2), some (vI x3), some (vI x4), some (vI x5), some (vI y6_25), some (vI r21)]) dc_X7_spot_117 rfl ((congrArg (fun z => x6 + z) gc_1).trans ey6_25.symm) (by decide) rfl rfl ?_
          refine gh_goto (tgt := 39) dc_X7_spot_120 rfl ?_
          refine gh_drop (pc' := 0) [some (vR 32 0), some (vI x1), some (vI x2), some (vI x3), some (vI x4), some (vI x5), some (vI y6_25), none] ⟨rfl, rfl, rfl, rfl, rfl, rfl, rfl, trivial⟩ ?_
          exact ih _ _ _ _ _ _ _ hw
        · replace hw := hw.2 c24
          refine gh_iload dc_X7_spot_108 rfl ?_
          refine gh_goto (tgt := 115) dc_X7_spot_110 rfl ?_
          refine gh_istore (L' := [some (vR 32 0), some (vI x1), some (vI x2), some (vI x3), some (vI x4), some (vI r21), some (vI x6), some (vI r21)]) dc_X7_spot_115 (by decide) rfl rfl ?_
          obtain ⟨y6_26, ey6_26⟩ : ∃ z, z = (x6 + (nI 1)) := ⟨_, rfl⟩
          replace hw := hw _ ey6_26
          refine gh_iinc (v := y6_26) (L' := [some (vR 32 0), some (vI x1), some (vI x2), some (vI x3), some (vI x4), some (vI r21), some (vI y6_26), some (vI r21)]) dc_X7_spot_117 rfl ((congrArg (fun z => x6 + z) gc_1).trans ey6_26.symm) (by decide) rfl rfl ?_
          refine gh_goto (tgt := 39) dc_X7_spot_120 rfl ?_
          refine gh_drop (pc' := 0) [some (vR 32 0), some (vI x1), some (vI x2), some (vI x3), some (vI x4), some (vI r21), some (vI y6_26), none] ⟨rfl, rfl, rfl, rfl, rfl, rfl, rfl, trivial⟩ ?_
          exact ih _ _ _ _ _ _ _ hw
      · replace hw := hw.2 c23
        refine gh_iload dc_X7_spot_92 rfl ?_
        refine gh_goto (tgt := 99) dc_X7_spot_94 rfl ?_
        refine gh_istore (L' := [some (vR 32 0), some (vI x1), some (vI x2), some (vI x3), some (vI x6), some (vI x5), some (vI x6), some (vI r21)]) dc_X7_spot_99 (by decide) rfl rfl ?_
        refine gh_iload dc_X7_spot_101 rfl ?_
        refine gh_iload dc_X7_spot_103 rfl ?_
        refine gh_icmp_le (tgt := 113) dc_X7_spot_105 rfl (fun c27 => ?_) (fun c27 => ?_)
        · replace hw := hw.1 c27
          refine gh_iload dc_X7_spot_113 rfl ?_
          refine gh_istore (L' := [some (vR 32 0), some (vI x1), some (vI x2), some (vI x3), some (vI x6), some (vI x5), some (vI x6), some (vI r21)]) dc_X7_spot_115 (by decide) rfl rfl ?_
          obtain ⟨y6_28, ey6_28⟩ : ∃ z, z = (x6 + (nI 1)) := ⟨_, rfl⟩
          replace hw := hw _ ey6_28
          refine gh_iinc (v := y6_28) (L' := [some (vR 32 0), some (vI x1), some (vI x2), some (vI x3), some (vI x6), some (vI x5), some (vI y6_28), some (vI r21)]) dc_X7_spot_117 rfl ((congrArg (fun z => x6 + z) gc_1).trans ey6_28.symm) (by decide) rfl rfl ?_
          refine gh_goto (tgt := 39) dc_X7_spot_120 rfl ?_
          refine gh_drop (pc' := 0) [some (vR 32 0), some (vI x1), some (vI x2), some (vI x3), some (vI x6), some (vI x5), some (vI y6_28), none] ⟨rfl, rfl, rfl, rfl, rfl, rfl, rfl, trivial⟩ ?_
          exact ih _ _ _ _ _ _ _ hw
        · replace hw := hw.2 c27
          refine gh_iload dc_X7_spot_108 rfl ?_
          refine gh_goto (tgt := 115) dc_X7_spot_110 rfl ?_
          refine gh_istore (L' := [some (vR 32 0), some (vI x1), some (vI x2), some (vI x3), some (vI x6), some (vI r21), some (vI x6), some (vI r21)]) dc_X7_spot_115 (by decide) rfl rfl ?_
          obtain ⟨y6_29, ey6_29⟩ : ∃ z, z = (x6 + (nI 1)) := ⟨_, rfl⟩
          replace hw := hw _ ey6_29
          refine gh_iinc (v := y6_29) (L' := [some (vR 32 0), some (vI x1), some (vI x2), some (vI x3), some (vI x6), some (vI r21), some (vI y6_29), some (vI r21)]) dc_X7_spot_117 rfl ((congrArg (fun z => x6 + z) gc_1).trans ey6_29.symm) (by decide) rfl rfl ?_
          refine gh_goto (tgt := 39) dc_X7_spot_120 rfl ?_
          refine gh_drop (pc' := 0) [some (vR 32 0), some (vI x1), some (vI x2), some (vI x3), some (vI x6), some (vI r21), some (vI y6_29), none] ⟨rfl, rfl, rfl, rfl, rfl, rfl, rfl, trivial⟩ ?_
          exact ih _ _ _ _ _ _ _ hw
theorem wk_X7_spot   (Q : Int32 → gh_M → Prop) (a0 : Int32) (a1 : Int32) (a2 : Int32) (M : gh_M) (hw : wp_X7_spot  a0 a1 a2 M Q) : gh_Calls 8 mi_X7_spot [vR 32 0, vI a0, vI a1, vI a2] M (gh_Qi Q) := by
  refine gh_of (by decide) rfl 4 rfl (L0 := [some (vR 32 0), some (vI a0), some (vI a1), some (vI a2), none, none, none, none]) rfl (fun wd x hE => ?_)
  unfold wp_X7_spot at hw
  refine gh_aload_n dc_X7_spot_0 rfl ?_
  refine gh_iload_n dc_X7_spot_1 rfl ?_
  refine gh_callVi (mi' := mi_X7_isTrick) (as := [vI a0]) (S := []) (k := 32) (t := 0) dc_X7_spot_2 ml_RX7_174 ok_X7_isTrick rfl rfl (by decide) (Nat.le_of_ble_eq_true rfl) (by decide) (by decide) rfl rfl (wk_X7_isTrick _ _ _ hw) (fun r1 M2 hw => ?_)
  refine gh_if_eq (tgt := 27) dc_X7_spot_5 rfl (fun c3 => ?_) (fun c3 => ?_)
  · replace hw := hw.1 c3
    refine gh_ldc (v := (-1000001 : Int32)) dc_X7_spot_27 tw_898 ?_
    exact gh_iret dc_X7_spot_29 hE rfl hw
  · replace hw := hw.2 c3
    refine gh_iload_n dc_X7_spot_8 rfl ?_
    refine gh_iconst (v := (nI 1)) dc_X7_spot_9 gc_1 ?_
    refine gh_bipush (v := (nI 50)) dc_X7_spot_10 gb_50 ?_
    refine gh_callSi (mi' := mi_X7_in) (as := [vI a1, vI (nI 1), vI (nI 50)]) (S := []) dc_X7_spot_12 ml_RX7_51 ok_X7_in rfl rfl (by decide) (Nat.le_of_ble_eq_true rfl) (wk_X7_in _ _ _ _ _ hw) (fun r4 M5 hw => ?_)
    refine gh_if_eq (tgt := 27) dc_X7_spot_15 rfl (fun c6 => ?_) (fun c6 => ?_)
    · replace hw := hw.1 c6
      refine gh_ldc (v := (-1000001 : Int32)) dc_X7_spot_27 tw_898 ?_
      exact gh_iret dc_X7_spot_29 hE rfl hw
    · replace hw := hw.2 c6
      refine gh_iload_n dc_X7_spot_18 rfl ?_
      refine gh_iconst (v := (nI 0)) dc_X7_spot_19 gc_0 ?_
      refine gh_iconst (v := (nI 1)) dc_X7_spot_20 gc_1 ?_
      refine gh_callSi (mi' := mi_X7_in) (as := [vI a2, vI (nI 0), vI (nI 1)]) (S := []) dc_X7_spot_21 ml_RX7_51 ok_X7_in rfl rfl (by decide) (Nat.le_of_ble_eq_true rfl) (wk_X7_in _ _ _ _ _ hw) (fun r7 M8 hw => ?_)
      refine gh_if_ne (tgt := 30) dc_X7_spot_24 rfl (fun c9 => ?_) (fun c9 => ?_)
      · replace hw := hw.1 c9
        refine gh_iconst (v := (nI 0)) dc_X7_spot_30 gc_0 ?_
        refine gh_istore (L' := [some (vR 32 0), some (vI a0), some (vI a1), some (vI a2), some (vI (nI 0)), none, none, none]) dc_X7_spot_31 (by decide) rfl rfl ?_
        refine gh_iconst (v := (-1 : Int32)) dc_X7_spot_33 gc_m1 ?_
        refine gh_istore (L' := [some (vR 32 0), some (vI a0), some (vI a1), some (vI a2), some (vI (nI 0)), some (vI (-1 : Int32)), none, none]) dc_X7_spot_34 (by decide) rfl rfl ?_
        refine gh_iconst (v := (nI 0)) dc_X7_spot_36 gc_0 ?_
        refine gh_istore (L' := [some (vR 32 0), some (vI a0), some (vI a1), some (vI a2), some (vI (nI 0)), some (vI (-1 : Int32)), some (vI (nI 0)), none]) dc_X7_spot_37 (by decide) rfl rfl ?_
        refine gh_drop (pc' := 0) [some (vR 32 0), some (vI a0), some (vI a1), some (vI a2), some (vI (nI 0)), some (vI (-1 : Int32)), some (vI (nI 0)), none] ⟨rfl, rfl, rfl, rfl, rfl, rfl, rfl, trivial⟩ ?_
        obtain ⟨k, hw⟩ := hw
        exact lk_X7_spot_39  hE  k _ _ _ _ _ _ _ hw
      · replace hw := hw.2 c9
        refine gh_ldc (v := (-1000001 : Int32)) dc_X7_spot_27 tw_898 ?_
        exact gh_iret dc_X7_spot_29 hE rfl hw
theorem wk_X7_allTricks   (Q : Int32 → gh_M → Prop)  (M : gh_M) (hw : wp_X7_allTricks   M Q) : gh_Calls 1 mi_X7_allTricks [vR 32 0] M (gh_Qi Q) := by
  refine gh_of (by decide) rfl 0 rfl (L0 := [some (vR 32 0)]) rfl (fun wd x hE => ?_)
  unfold wp_X7_allTricks at hw
  refine gh_iconst (v := (nI 1)) dc_X7_allTricks_0 gc_1 ?_
  refine gh_aload_n dc_X7_allTricks_1 rfl ?_
  refine gh_getR (k := 32) (t := 0) dc_X7_allTricks_2 fl_RX7_7 (by decide) (by decide) rfl rfl ?_
  refine gh_iconst (v := (nI 1)) dc_X7_allTricks_5 gc_1 ?_
  obtain ⟨h1, hw⟩ := hw
  refine gh_iald (k := 33) (t := 0) dc_X7_allTricks_6 rfl (by decide) (by decide) h1 ?_
  refine gh_ishl dc_X7_allTricks_7 ?_
  refine gh_iconst (v := (nI 1)) dc_X7_allTricks_8 gc_1 ?_
  refine gh_isub dc_X7_allTricks_9 ?_
  exact gh_iret dc_X7_allTricks_10 hE rfl hw
theorem wk_X7_has   (Q : Int32 → gh_M → Prop) (a0 : Int32) (a1 : Int32) (M : gh_M) (hw : wp_X7_has  a0 a1 M Q) : gh_Calls 1 mi_X7_has [vI a0, vI a1] M (gh_Qi Q) := by
  refine gh_of (by decide) rfl 0 rfl (L0 := [some (vI a0), some (vI a1)]) rfl (fun wd x hE => ?_)
  unfold wp_X7_has at hw
  refine gh_iload_n dc_X7_has_0 rfl ?_
  refine gh_iload_n dc_X7_has_1 rfl ?_
  refine gh_ishr dc_X7_has_2 ?_
  refine gh_iconst (v := (nI 1)) dc_X7_has_3 gc_1 ?_
  refine gh_iand dc_X7_has_4 ?_
  refine gh_iconst (v := (nI 1)) dc_X7_has_5 gc_1 ?_
  refine gh_icmp_ne (tgt := 13) dc_X7_has_6 rfl (fun c1 => ?_) (fun c1 => ?_)
  · replace hw := hw.1 c1
    refine gh_iconst (v := (nI 0)) dc_X7_has_13 gc_0 ?_
    exact gh_zret dc_X7_has_14 hE rfl (by decide) hw
  · replace hw := hw.2 c1
    refine gh_iconst (v := (nI 1)) dc_X7_has_9 gc_1 ?_
    refine gh_goto (tgt := 14) dc_X7_has_10 rfl ?_
    exact gh_zret dc_X7_has_14 hE rfl (by decide) hw
theorem lk_X7_switchAll_2 {wd : gh_Wd} {x : gh_X} {Q : gh_M → Prop}   (hE : gh_E wd (gh_Qv Q) x)   : ∀ (n : Nat) (x1 : Int32) (x2 : Int32) (M : gh_M), wl_X7_switchAll_2 Q n x1 x2 M → gh_J mi_X7_switchAll 2 wd x M 2 [some (vR 32 0), some (vI x1), some (vI x2)] [] := by
  intro n
  induction n with
  | zero => intro x1 x2 M hw; exact hw.elim
  | succ n ih =>
    intro x1 x2 M hw
    unfold wl_X7_switchAll_2 at hw
    refine gh_iload_n dc_X7_switchAll_2 rfl ?_
    refine gh_aload_n dc_X7_switchAll_3 rfl ?_
    refine gh_getR (k := 32) (t := 0) dc_X7_switchAll_4 fl_RX7_7 (by decide) (by decide) rfl rfl ?_
    refine gh_iconst (v := (nI 1)) dc_X7_switchAll_7 gc_1 ?_
    obtain ⟨h1, hw⟩ := hw
    refine gh_iald (k := 33) (t := 0) dc_X7_switchAll_8 rfl (by decide) (by decide) h1 ?_
    refine gh_icmp_ge (tgt := 45) dc_X7_switchAll_9 rfl (fun c2 => ?_) (fun c2 => ?_)
    · replace hw := hw.1 c2
      exact gh_vret dc_X7_switchAll_45 hE rfl hw
    · replace hw := hw.2 c2
      refine gh_aload_n dc_X7_switchAll_12 rfl ?_
      refine gh_getR (k := 32) (t := 0) dc_X7_switchAll_13 fl_RX7_7 (by decide) (by decide) rfl rfl ?_
      refine gh_sipush (v := (nI 1917)) dc_X7_switchAll_16 gs_1917 ?_
      refine gh_iload_n dc_X7_switchAll_19 rfl ?_
      refine gh_callSi (mi' := mi_X7_trickAt) (as := [vI (nI 1917), vI x2]) (S := [vR 33 0]) dc_X7_switchAll_20 ml_RX7_98 ok_X7_trickAt rfl rfl (by decide) (Nat.le_of_ble_eq_true rfl) (wk_X7_trickAt _ _ _ _ hw) (fun r3 M4 hw => ?_)
      refine gh_iconst (v := (nI 3)) dc_X7_switchAll_23 gc_3 ?_
      refine gh_iadd dc_X7_switchAll_24 ?_
      refine gh_iload_n dc_X7_switchAll_25 rfl ?_
      refine gh_iload_n dc_X7_switchAll_26 rfl ?_
      refine gh_callSi (mi' := mi_X7_has) (as := [vI x1, vI x2]) (S := [vI (r3 + (nI 3)), vR 33 0]) dc_X7_switchAll_27 ml_RX7_216 ok_X7_has rfl rfl (by decide) (Nat.le_of_ble_eq_true rfl) (wk_X7_has _ _ _ _ hw) (fun r5 M6 hw => ?_)
      refine gh_if_eq (tgt := 37) dc_X7_switchAll_30 rfl (fun c7 => ?_) (fun c7 => ?_)
      · replace hw := hw.1 c7
        refine gh_iconst (v := (nI 0)) dc_X7_switchAll_37 gc_0 ?_
        obtain ⟨h8, hw⟩ := hw
        refine gh_iast (k := 33) (t := 0) dc_X7_switchAll_38 rfl (by decide) (by decide) h8 ?_
        obtain ⟨M9, eM9⟩ : ∃ z, z = (gh_st M6 33 0 (r3 + (nI 3)).toNatClampNeg (nI 0)) := ⟨_, rfl⟩
        rw [← eM9]
        replace hw := hw _ eM9
        obtain ⟨y2_10, ey2_10⟩ : ∃ z, z = (x2 + (nI 1)) := ⟨_, rfl⟩
        replace hw := hw _ ey2_10
        refine gh_iinc (v := y2_10) (L' := [some (vR 32 0), some (vI x1), some (vI y2_10)]) dc_X7_switchAll_39 rfl ((congrArg (fun z => x2 + z) gc_1).trans ey2_10.symm) (by decide) rfl rfl ?_
        refine gh_goto (tgt := 2) dc_X7_switchAll_42 rfl ?_
        refine gh_drop (pc' := 0) [some (vR 32 0), some (vI x1), some (vI y2_10)] ⟨rfl, rfl, rfl, trivial⟩ ?_
        exact ih _ _ _ hw
      · replace hw := hw.2 c7
        refine gh_iconst (v := (nI 1)) dc_X7_switchAll_33 gc_1 ?_
        refine gh_goto (tgt := 38) dc_X7_switchAll_34 rfl ?_
        obtain ⟨h11, hw⟩ := hw
        refine gh_iast (k := 33) (t := 0) dc_X7_switchAll_38 rfl (by decide) (by decide) h11 ?_
        obtain ⟨M12, eM12⟩ : ∃ z, z = (gh_st M6 33 0 (r3 + (nI 3)).toNatClampNeg (nI 1)) := ⟨_, rfl⟩
        rw [← eM12]
        replace hw := hw _ eM12
        obtain ⟨y2_13, ey2_13⟩ : ∃ z, z = (x2 + (nI 1)) := ⟨_, rfl⟩
        replace hw := hw _ ey2_13
        refine gh_iinc (v := y2_13) (L' := [some (vR 32 0), some (vI x1), some (vI y2_13)]) dc_X7_switchAll_39 rfl ((congrArg (fun z => x2 + z) gc_1).trans ey2_13.symm) (by decide) rfl rfl ?_
        refine gh_goto (tgt := 2) dc_X7_switchAll_42 rfl ?_
        refine gh_drop (pc' := 0) [some (vR 32 0), some (vI x1), some (vI y2_13)] ⟨rfl, rfl, rfl, trivial⟩ ?_
        exact ih _ _ _ hw
theorem wk_X7_switchAll   (Q : gh_M → Prop) (a0 : Int32) (M : gh_M) (hw : wp_X7_switchAll  a0 M Q) : gh_Calls 2 mi_X7_switchAll [vR 32 0, vI a0] M (gh_Qv Q) := by
  refine gh_of (by decide) rfl 1 rfl (L0 := [some (vR 32 0), some (vI a0), none]) rfl (fun wd x hE => ?_)
  unfold wp_X7_switchAll at hw
  refine gh_iconst (v := (nI 0)) dc_X7_switchAll_0 gc_0 ?_
  refine gh_istore_n (L' := [some (vR 32 0), some (vI a0), some (vI (nI 0))]) dc_X7_switchAll_1 (by decide) rfl rfl ?_
  refine gh_drop (pc' := 0) [some (vR 32 0), some (vI a0), some (vI (nI 0))] ⟨rfl, rfl, rfl, trivial⟩ ?_
  obtain ⟨k, hw⟩ := hw
  exact lk_X7_switchAll_2  hE  k _ _ _ hw
theorem lk_X7_calm_38 {wd : gh_Wd} {x : gh_X} {Q : Int32 → gh_M → Prop}   (hE : gh_E wd (gh_Qi Q) x)   : ∀ (n : Nat) (x1 : Int32) (x2 : Int32) (x3 : Int32) (x4 : Int32) (M : gh_M), wl_X7_calm_38 Q n x1 x2 x3 x4 M → gh_J mi_X7_calm 8 wd x M 38 [some (vR 32 0), some (vI x1), some (vI x2), some (vI x3), some (vI x4), none] [] := by
  intro n
  induction n with
  | zero => intro x1 x2 x3 x4 M hw; exact hw.elim
  | succ n ih =>
    intro x1 x2 x3 x4 M hw
    unfold wl_X7_calm_38 at hw
    refine gh_iload dc_X7_calm_38 rfl ?_
    refine gh_aload_n dc_X7_calm_40 rfl ?_
    refine gh_callVi (mi' := mi_X7_allTricks) (as := []) (S := [vI x4]) (k := 32) (t := 0) dc_X7_calm_41 ml_RX7_219 ok_X7_allTricks rfl rfl (by decide) (Nat.le_of_ble_eq_true rfl) (by decide) (by decide) rfl rfl (wk_X7_allTricks _ _ hw) (fun r10 M11 hw => ?_)
    refine gh_icmp_gt (tgt := 119) dc_X7_calm_44 rfl (fun c12 => ?_) (fun c12 => ?_)
    · replace hw := hw.1 c12
      refine gh_iload_n dc_X7_calm_119 rfl ?_
      refine gh_ldc (v := (-1000000 : Int32)) dc_X7_calm_120 tw_1016 ?_
      refine gh_icmp_eq (tgt := 130) dc_X7_calm_122 rfl (fun c13 => ?_) (fun c13 => ?_)
      · replace hw := hw.1 c13
        refine gh_iload_n dc_X7_calm_130 rfl ?_
        refine gh_goto (tgt := 138) dc_X7_calm_131 rfl ?_
        exact gh_iret dc_X7_calm_138 hE rfl hw
      · replace hw := hw.2 c13
        refine gh_iload_n dc_X7_calm_125 rfl ?_
        refine gh_iconst (v := (nI 1)) dc_X7_calm_126 gc_1 ?_
        refine gh_icmp_ne (tgt := 134) dc_X7_calm_127 rfl (fun c14 => ?_) (fun c14 => ?_)
        · replace hw := hw.1 c14
          refine gh_iload_n dc_X7_calm_134 rfl ?_
          refine gh_callSi (mi' := mi_X7_bits) (as := [vI x3]) (S := []) dc_X7_calm_135 ml_RX7_207 ok_X7_bits rfl rfl (by decide) (Nat.le_of_ble_eq_true rfl) (wk_X7_bits _ _ _ hw) (fun r15 M16 hw => ?_)
          exact gh_iret dc_X7_calm_138 hE rfl hw
        · replace hw := hw.2 c14
          refine gh_iload_n dc_X7_calm_130 rfl ?_
          refine gh_goto (tgt := 138) dc_X7_calm_131 rfl ?_
          exact gh_iret dc_X7_calm_138 hE rfl hw
    · replace hw := hw.2 c12
      refine gh_iload_n dc_X7_calm_47 rfl ?_
      refine gh_ldc (v := (-1000000 : Int32)) dc_X7_calm_48 tw_1016 ?_
      refine gh_icmp_eq (tgt := 65) dc_X7_calm_50 rfl (fun c17 => ?_) (fun c17 => ?_)
      · replace hw := hw.1 c17
        refine gh_iconst (v := (nI 1)) dc_X7_calm_65 gc_1 ?_
        refine gh_goto (tgt := 70) dc_X7_calm_66 rfl ?_
        refine gh_istore (L' := [some (vR 32 0), some (vI x1), some (vI x2), some (vI x3), some (vI x4), some (vI (nI 1))]) dc_X7_calm_70 (by decide) rfl rfl ?_
        refine gh_aload_n dc_X7_calm_72 rfl ?_
        refine gh_callVv (mi' := mi_X7_beginTry) (as := []) (S := []) (k := 32) (t := 0) dc_X7_calm_73 ml_RX7_192 ok_X7_beginTry rfl rfl (by decide) (Nat.le_of_ble_eq_true rfl) (by decide) (by decide) rfl rfl (wk_X7_beginTry _ _ hw) (fun M19 hw => ?_)
        refine gh_aload_n dc_X7_calm_76 rfl ?_
        refine gh_aload_n dc_X7_calm_77 rfl ?_
        refine gh_callVi (mi' := mi_X7_allTricks) (as := []) (S := [vR 32 0]) (k := 32) (t := 0) dc_X7_calm_78 ml_RX7_219 ok_X7_allTricks rfl rfl (by decide) (Nat.le_of_ble_eq_true rfl) (by decide) (by decide) rfl rfl (wk_X7_allTricks _ _ hw) (fun r20 M21 hw => ?_)
        refine gh_iload dc_X7_calm_81 rfl ?_
        refine gh_iconst (v := (-1 : Int32)) dc_X7_calm_83 gc_m1 ?_
        refine gh_ixor dc_X7_calm_84 ?_
        refine gh_iand dc_X7_calm_85 ?_
        refine gh_callVv (mi' := mi_X7_switchAll) (as := [vI (r20 &&& (x4 ^^^ (-1 : Int32)))]) (S := []) (k := 32) (t := 0) dc_X7_calm_86 ml_RX7_222 ok_X7_switchAll rfl rfl (by decide) (Nat.le_of_ble_eq_true rfl) (by decide) (by decide) rfl rfl (wk_X7_switchAll _ _ _ hw) (fun M23 hw => ?_)
        refine gh_aload_n dc_X7_calm_89 rfl ?_
        refine gh_iload_n dc_X7_calm_90 rfl ?_
        refine gh_callVv (mi' := mi_X7_goOn) (as := [vI x1]) (S := []) (k := 32) (t := 0) dc_X7_calm_91 ml_RX7_195 ok_X7_goOn rfl rfl (by decide) (Nat.le_of_ble_eq_true rfl) (by decide) (by decide) rfl rfl (wk_X7_goOn _ _ _ hw) (fun M25 hw => ?_)
        refine gh_iload dc_X7_calm_94 rfl ?_
        refine gh_if_eq (tgt := 111) dc_X7_calm_96 rfl (fun h => absurd h (by decide)) (fun _ => ?_)
        refine gh_aload_n dc_X7_calm_99 rfl ?_
        refine gh_getI (k := 32) (t := 0) dc_X7_calm_100 fl_RX7_143 (by decide) (by decide) rfl rfl ?_
        refine gh_if_ne (tgt := 111) dc_X7_calm_103 rfl (fun c26 => ?_) (fun c26 => ?_)
        · replace hw := hw.1 c26
          refine gh_iload_n dc_X7_calm_111 rfl ?_
          refine gh_istore_n (L' := [some (vR 32 0), some (vI x1), some (vI x2), some (vI x3), some (vI x4), some (vI (nI 1))]) dc_X7_calm_112 (by decide) rfl rfl ?_
          obtain ⟨y4_27, ey4_27⟩ : ∃ z, z = (x4 + (nI 1)) := ⟨_, rfl⟩
          replace hw := hw _ ey4_27
          refine gh_iinc (v := y4_27) (L' := [some (vR 32 0), some (vI x1), some (vI x2), some (vI x3), some (vI y4_27), some (vI (nI 1))]) dc_X7_calm_113 rfl ((congrArg (fun z => x4 + z) gc_1).trans ey4_27.symm) (by decide) rfl rfl ?_
          refine gh_goto (tgt := 38) dc_X7_calm_116 rfl ?_
          refine gh_drop (pc' := 0) [some (vR 32 0), some (vI x1), some (vI x2), some (vI x3), some (vI y4_27), none] ⟨rfl, rfl, rfl, rfl, rfl, trivial⟩ ?_
          exact ih _ _ _ _ _ hw
        · replace hw := hw.2 c26
          refine gh_iload dc_X7_calm_106 rfl ?_
          refine gh_goto (tgt := 112) dc_X7_calm_108 rfl ?_
          refine gh_istore_n (L' := [some (vR 32 0), some (vI x1), some (vI x2), some (vI x4), some (vI x4), some (vI (nI 1))]) dc_X7_calm_112 (by decide) rfl rfl ?_
          obtain ⟨y4_28, ey4_28⟩ : ∃ z, z = (x4 + (nI 1)) := ⟨_, rfl⟩
          replace hw := hw _ ey4_28
          refine gh_iinc (v := y4_28) (L' := [some (vR 32 0), some (vI x1), some (vI x2), some (vI x4), some (vI y4_28), some (vI (nI 1))]) dc_X7_calm_113 rfl ((congrArg (fun z => x4 + z) gc_1).trans ey4_28.symm) (by decide) rfl rfl ?_
          refine gh_goto (tgt := 38) dc_X7_calm_116 rfl ?_
          refine gh_drop (pc' := 0) [some (vR 32 0), some (vI x1), some (vI x2), some (vI x4), some (vI y4_28), none] ⟨rfl, rfl, rfl, rfl, rfl, trivial⟩ ?_
          exact ih _ _ _ _ _ hw
      · replace hw := hw.2 c17
        refine gh_iload dc_X7_calm_53 rfl ?_
        refine gh_callSi (mi' := mi_X7_bits) (as := [vI x4]) (S := []) dc_X7_calm_55 ml_RX7_207 ok_X7_bits rfl rfl (by decide) (Nat.le_of_ble_eq_true rfl) (wk_X7_bits _ _ _ hw) (fun r29 M30 hw => ?_)
        refine gh_iload_n dc_X7_calm_58 rfl ?_
        refine gh_callSi (mi' := mi_X7_bits) (as := [vI x3]) (S := [vI r29]) dc_X7_calm_59 ml_RX7_207 ok_X7_bits rfl rfl (by decide) (Nat.le_of_ble_eq_true rfl) (wk_X7_bits _ _ _ hw) (fun r31 M32 hw => ?_)
        refine gh_icmp_ge (tgt := 69) dc_X7_calm_62 rfl (fun c33 => ?_) (fun c33 => ?_)
        · replace hw := hw.1 c33
          refine gh_iconst (v := (nI 0)) dc_X7_calm_69 gc_0 ?_
          refine gh_istore (L' := [some (vR 32 0), some (vI x1), some (vI x2), some (vI x3), some (vI x4), some (vI (nI 0))]) dc_X7_calm_70 (by decide) rfl rfl ?_
          refine gh_aload_n dc_X7_calm_72 rfl ?_
          refine gh_callVv (mi' := mi_X7_beginTry) (as := []) (S := []) (k := 32) (t := 0) dc_X7_calm_73 ml_RX7_192 ok_X7_beginTry rfl rfl (by decide) (Nat.le_of_ble_eq_true rfl) (by decide) (by decide) rfl rfl (wk_X7_beginTry _ _ hw) (fun M35 hw => ?_)
          refine gh_aload_n dc_X7_calm_76 rfl ?_
          refine gh_aload_n dc_X7_calm_77 rfl ?_
          refine gh_callVi (mi' := mi_X7_allTricks) (as := []) (S := [vR 32 0]) (k := 32) (t := 0) dc_X7_calm_78 ml_RX7_219 ok_X7_allTricks rfl rfl (by decide) (Nat.le_of_ble_eq_true rfl) (by decide) (by decide) rfl rfl (wk_X7_allTricks _ _ hw) (fun r36 M37 hw => ?_)
          refine gh_iload dc_X7_calm_81 rfl ?_
          refine gh_iconst (v := (-1 : Int32)) dc_X7_calm_83 gc_m1 ?_
          refine gh_ixor dc_X7_calm_84 ?_
          refine gh_iand dc_X7_calm_85 ?_
          refine gh_callVv (mi' := mi_X7_switchAll) (as := [vI (r36 &&& (x4 ^^^ (-1 : Int32)))]) (S := []) (k := 32) (t := 0) dc_X7_calm_86 ml_RX7_222 ok_X7_switchAll rfl rfl (by decide) (Nat.le_of_ble_eq_true rfl) (by decide) (by decide) rfl rfl (wk_X7_switchAll _ _ _ hw) (fun M39 hw => ?_)
          refine gh_aload_n dc_X7_calm_89 rfl ?_
          refine gh_iload_n dc_X7_calm_90 rfl ?_
          refine gh_callVv (mi' := mi_X7_goOn) (as := [vI x1]) (S := []) (k := 32) (t := 0) dc_X7_calm_91 ml_RX7_195 ok_X7_goOn rfl rfl (by decide) (Nat.le_of_ble_eq_true rfl) (by decide) (by decide) rfl rfl (wk_X7_goOn _ _ _ hw) (fun M41 hw => ?_)
          refine gh_iload dc_X7_calm_94 rfl ?_
          refine gh_if_eq (tgt := 111) dc_X7_calm_96 rfl (fun _ => ?_) (fun h => absurd h (by decide))
          refine gh_iload_n dc_X7_calm_111 rfl ?_
          refine gh_istore_n (L' := [some (vR 32 0), some (vI x1), some (vI x2), some (vI x3), some (vI x4), some (vI (nI 0))]) dc_X7_calm_112 (by decide) rfl rfl ?_
          obtain ⟨y4_42, ey4_42⟩ : ∃ z, z = (x4 + (nI 1)) := ⟨_, rfl⟩
          replace hw := hw _ ey4_42
          refine gh_iinc (v := y4_42) (L' := [some (vR 32 0), some (vI x1), some (vI x2), some (vI x3), some (vI y4_42), some (vI (nI 0))]) dc_X7_calm_113 rfl ((congrArg (fun z => x4 + z) gc_1).trans ey4_42.symm) (by decide) rfl rfl ?_
          refine gh_goto (tgt := 38) dc_X7_calm_116 rfl ?_
          refine gh_drop (pc' := 0) [some (vR 32 0), some (vI x1), some (vI x2), some (vI x3), some (vI y4_42), none] ⟨rfl, rfl, rfl, rfl, rfl, trivial⟩ ?_
          exact ih _ _ _ _ _ hw
        · replace hw := hw.2 c33
          refine gh_iconst (v := (nI 1)) dc_X7_calm_65 gc_1 ?_
          refine gh_goto (tgt := 70) dc_X7_calm_66 rfl ?_
          refine gh_istore (L' := [some (vR 32 0), some (vI x1), some (vI x2), some (vI x3), some (vI x4), some (vI (nI 1))]) dc_X7_calm_70 (by decide) rfl rfl ?_
          refine gh_aload_n dc_X7_calm_72 rfl ?_
          refine gh_callVv (mi' := mi_X7_beginTry) (as := []) (S := []) (k := 32) (t := 0) dc_X7_calm_73 ml_RX7_192 ok_X7_beginTry rfl rfl (by decide) (Nat.le_of_ble_eq_true rfl) (by decide) (by decide) rfl rfl (wk_X7_beginTry _ _ hw) (fun M44 hw => ?_)
          refine gh_aload_n dc_X7_calm_76 rfl ?_
          refine gh_aload_n dc_X7_calm_77 rfl ?_
          refine gh_callVi (mi' := mi_X7_allTricks) (as := []) (S := [vR 32 0]) (k := 32) (t := 0) dc_X7_calm_78 ml_RX7_219 ok_X7_allTricks rfl rfl (by decide) (Nat.le_of_ble_eq_true rfl) (by decide) (by decide) rfl rfl (wk_X7_allTricks _ _ hw) (fun r45 M46 hw => ?_)
          refine gh_iload dc_X7_calm_81 rfl ?_
          refine gh_iconst (v := (-1 : Int32)) dc_X7_calm_83 gc_m1 ?_
          refine gh_ixor dc_X7_calm_84 ?_
          refine gh_iand dc_X7_calm_85 ?_
          refine gh_callVv (mi' := mi_X7_switchAll) (as := [vI (r45 &&& (x4 ^^^ (-1 : Int32)))]) (S := []) (k := 32) (t := 0) dc_X7_calm_86 ml_RX7_222 ok_X7_switchAll rfl rfl (by decide) (Nat.le_of_ble_eq_true rfl) (by decide) (by decide) rfl rfl (wk_X7_switchAll _ _ _ hw) (fun M48 hw => ?_)
          refine gh_aload_n dc_X7_calm_89 rfl ?_
          refine gh_iload_n dc_X7_calm_90 rfl ?_
          refine gh_callVv (mi' := mi_X7_goOn) (as := [vI x1]) (S := []) (k := 32) (t := 0) dc_X7_calm_91 ml_RX7_195 ok_X7_goOn rfl rfl (by decide) (Nat.le_of_ble_eq_true rfl) (by decide) (by decide) rfl rfl (wk_X7_goOn _ _ _ hw) (fun M50 hw => ?_)
          refine gh_iload dc_X7_calm_94 rfl ?_
          refine gh_if_eq (tgt := 111) dc_X7_calm_96 rfl (fun h => absurd h (by decide)) (fun _ => ?_)
          refine gh_aload_n dc_X7_calm_99 rfl ?_
          refine gh_getI (k := 32) (t := 0) dc_X7_calm_100 fl_RX7_143 (by decide) (by decide) rfl rfl ?_
          refine gh_if_ne (tgt := 111) dc_X7_calm_103 rfl (fun c51 => ?_) (fun c51 => ?_)
          · replace hw := hw.1 c51
            refine gh_iload_n dc_X7_calm_111 rfl ?_
            refine gh_istore_n (L' := [some (vR 32 0), some (vI x1), some (vI x2), some (vI x3), some (vI x4), some (vI (nI 1))]) dc_X7_calm_112 (by decide) rfl rfl ?_
            obtain ⟨y4_52, ey4_52⟩ : ∃ z, z = (x4 + (nI 1)) := ⟨_, rfl⟩
            replace hw := hw _ ey4_52
            refine gh_iinc (v := y4_52) (L' := [some (vR 32 0), some (vI x1), some (vI x2), some (vI x3), some (vI y4_52), some (vI (nI 1))]) dc_X7_calm_113 rfl ((congrArg (fun z => x4 + z) gc_1).trans ey4_52.symm) (by decide) rfl rfl ?_
            refine gh_goto (tgt := 38) dc_X7_calm_116 rfl ?_
            refine gh_drop (pc' := 0) [some (vR 32 0), some (vI x1), some (vI x2), some (vI x3), some (vI y4_52), none] ⟨rfl, rfl, rfl, rfl, rfl, trivial⟩ ?_
            exact ih _ _ _ _ _ hw
          · replace hw := hw.2 c51
            refine gh_iload dc_X7_calm_106 rfl ?_
            refine gh_goto (tgt := 112) dc_X7_calm_108 rfl ?_
            refine gh_istore_n (L' := [some (vR 32 0), some (vI x1), some (vI x2), some (vI x4), some (vI x4), some (vI (nI 1))]) dc_X7_calm_112 (by decide) rfl rfl ?_
            obtain ⟨y4_53, ey4_53⟩ : ∃ z, z = (x4 + (nI 1)) := ⟨_, rfl⟩
            replace hw := hw _ ey4_53
            refine gh_iinc (v := y4_53) (L' := [some (vR 32 0), some (vI x1), some (vI x2), some (vI x4), some (vI y4_53), some (vI (nI 1))]) dc_X7_calm_113 rfl ((congrArg (fun z => x4 + z) gc_1).trans ey4_53.symm) (by decide) rfl rfl ?_
            refine gh_goto (tgt := 38) dc_X7_calm_116 rfl ?_
            refine gh_drop (pc' := 0) [some (vR 32 0), some (vI x1), some (vI x2), some (vI x4), some (vI y4_53), none] ⟨rfl, rfl, rfl, rfl, rfl, trivial⟩ ?_
            exact ih _ _ _ _ _ hw
theorem wk_X7_calm   (Q : Int32 → gh_M → Prop) (a0 : Int32) (a1 : Int32) (M : gh_M) (hw : wp_X7_calm  a0 a1 M Q) : gh_Calls 8 mi_X7_calm [vR 32 0, vI a0, vI a1] M (gh_Qi Q) := by
  refine gh_of (by decide) rfl 3 rfl (L0 := [some (vR 32 0), some (vI a0), some (vI a1), none, none, none]) rfl (fun wd x hE => ?_)
  unfold wp_X7_calm at hw
  refine gh_aload_n dc_X7_calm_0 rfl ?_
  refine gh_callVi (mi' := mi_X7_isTrain) (as := []) (S := []) (k := 32) (t := 0) dc_X7_calm_1 ml_RX7_165 ok_X7_isTrain rfl rfl (by decide) (Nat.le_of_ble_eq_true rfl) (by decide) (by decide) rfl rfl (wk_X7_isTrain _ _ hw) (fun r1 M2 hw => ?_)
  refine gh_if_ne (tgt := 10) dc_X7_calm_4 rfl (fun c3 => ?_) (fun c3 => ?_)
  · replace hw := hw.1 c3
    refine gh_iload_n dc_X7_calm_10 rfl ?_
    refine gh_iconst (v := (nI 1)) dc_X7_calm_11 gc_1 ?_
    refine gh_bipush (v := (nI 50)) dc_X7_calm_12 gb_50 ?_
    refine gh_callSi (mi' := mi_X7_in) (as := [vI a0, vI (nI 1), vI (nI 50)]) (S := []) dc_X7_calm_14 ml_RX7_51 ok_X7_in rfl rfl (by decide) (Nat.le_of_ble_eq_true rfl) (wk_X7_in _ _ _ _ _ hw) (fun r4 M5 hw => ?_)
    refine gh_if_eq (tgt := 29) dc_X7_calm_17 rfl (fun c6 => ?_) (fun c6 => ?_)
    · replace hw := hw.1 c6
      refine gh_ldc (v := (-1000001 : Int32)) dc_X7_calm_29 tw_898 ?_
      exact gh_iret dc_X7_calm_31 hE rfl hw
    · replace hw := hw.2 c6
      refine gh_iload_n dc_X7_calm_20 rfl ?_
      refine gh_iconst (v := (nI 0)) dc_X7_calm_21 gc_0 ?_
      refine gh_iconst (v := (nI 1)) dc_X7_calm_22 gc_1 ?_
      refine gh_callSi (mi' := mi_X7_in) (as := [vI a1, vI (nI 0), vI (nI 1)]) (S := []) dc_X7_calm_23 ml_RX7_51 ok_X7_in rfl rfl (by decide) (Nat.le_of_ble_eq_true rfl) (wk_X7_in _ _ _ _ _ hw) (fun r7 M8 hw => ?_)
      refine gh_if_ne (tgt := 32) dc_X7_calm_26 rfl (fun c9 => ?_) (fun c9 => ?_)
      · replace hw := hw.1 c9
        refine gh_ldc (v := (-1000000 : Int32)) dc_X7_calm_32 tw_1016 ?_
        refine gh_istore_n (L' := [some (vR 32 0), some (vI a0), some (vI a1), some (vI (-1000000 : Int32)), none, none]) dc_X7_calm_34 (by decide) rfl rfl ?_
        refine gh_iconst (v := (nI 0)) dc_X7_calm_35 gc_0 ?_
        refine gh_istore (L' := [some (vR 32 0), some (vI a0), some (vI a1), some (vI (-1000000 : Int32)), some (vI (nI 0)), none]) dc_X7_calm_36 (by decide) rfl rfl ?_
        refine gh_drop (pc' := 0) [some (vR 32 0), some (vI a0), some (vI a1), some (vI (-1000000 : Int32)), some (vI (nI 0)), none] ⟨rfl, rfl, rfl, rfl, rfl, trivial⟩ ?_
        obtain ⟨k, hw⟩ := hw
        exact lk_X7_calm_38  hE  k _ _ _ _ _ hw
      · replace hw := hw.2 c9
        refine gh_ldc (v := (-1000001 : Int32)) dc_X7_calm_29 tw_898 ?_
        exact gh_iret dc_X7_calm_31 hE rfl hw
  · replace hw := hw.2 c3
    refine gh_ldc (v := (-1000002 : Int32)) dc_X7_calm_7 tw_991 ?_
    exact gh_iret dc_X7_calm_9 hE rfl hw
theorem lk_X7_bears_23 {wd : gh_Wd} {x : gh_X} {Q : Int32 → gh_M → Prop}   (hE : gh_E wd (gh_Qi Q) x)   : ∀ (n : Nat) (x1 : Int32) (x2 : Int32) (x3 : Int32) (M : gh_M), wl_X7_bears_23 Q n x1 x2 x3 M → gh_J mi_X7_bears 8 wd x M 23 [some (vR 32 0), some (vI x1), some (vI x2), some (vI x3)] [] := by
  intro n
  induction n with
  | zero => intro x1 x2 x3 M hw; exact hw.elim
  | succ n ih =>
    intro x1 x2 x3 M hw
    unfold wl_X7_bears_23 at hw
    refine gh_iload_n dc_X7_bears_23 rfl ?_
    refine gh_bipush (v := (nI 60)) dc_X7_bears_24 gb_60 ?_
    refine gh_icmp_gt (tgt := 70) dc_X7_bears_26 rfl (fun c7 => ?_) (fun c7 => ?_)
    · replace hw := hw.1 c7
      refine gh_ldc (v := (-1000000 : Int32)) dc_X7_bears_70 tw_1016 ?_
      exact gh_iret dc_X7_bears_72 hE rfl hw
    · replace hw := hw.2 c7
      refine gh_aload_n dc_X7_bears_29 rfl ?_
      refine gh_callVv (mi' := mi_X7_beginTry) (as := []) (S := []) (k := 32) (t := 0) dc_X7_bears_30 ml_RX7_192 ok_X7_beginTry rfl rfl (by decide) (Nat.le_of_ble_eq_true rfl) (by decide) (by decide) rfl rfl (wk_X7_beginTry _ _ hw) (fun M9 hw => ?_)
      refine gh_aload_n dc_X7_bears_33 rfl ?_
      refine gh_getR (k := 32) (t := 0) dc_X7_bears_34 fl_RX7_7 (by decide) (by decide) rfl rfl ?_
      refine gh_sipush (v := (nI 1917)) dc_X7_bears_37 gs_1917 ?_
      refine gh_iload_n dc_X7_bears_40 rfl ?_
      refine gh_callSi (mi' := mi_X7_carAt) (as := [vI (nI 1917), vI x1]) (S := [vR 33 0]) dc_X7_bears_41 ml_RX7_112 ok_X7_carAt rfl rfl (by decide) (Nat.le_of_ble_eq_true rfl) (wk_X7_carAt _ _ _ _ hw) (fun r10 M11 hw => ?_)
      refine gh_iconst (v := (nI 1)) dc_X7_bears_44 gc_1 ?_
      refine gh_iadd dc_X7_bears_45 ?_
      refine gh_iload_n dc_X7_bears_46 rfl ?_
      obtain ⟨h12, hw⟩ := hw
      refine gh_iast (k := 33) (t := 0) dc_X7_bears_47 rfl (by decide) (by decide) h12 ?_
      obtain ⟨M13, eM13⟩ : ∃ z, z = (gh_st M11 33 0 (r10 + (nI 1)).toNatClampNeg x3) := ⟨_, rfl⟩
      rw [← eM13]
      replace hw := hw _ eM13
      refine gh_aload_n dc_X7_bears_48 rfl ?_
      refine gh_iload_n dc_X7_bears_49 rfl ?_
      refine gh_callVv (mi' := mi_X7_goOn) (as := [vI x2]) (S := []) (k := 32) (t := 0) dc_X7_bears_50 ml_RX7_195 ok_X7_goOn rfl rfl (by decide) (Nat.le_of_ble_eq_true rfl) (by decide) (by decide) rfl rfl (wk_X7_goOn _ _ _ hw) (fun M15 hw => ?_)
      refine gh_aload_n dc_X7_bears_53 rfl ?_
      refine gh_getR (k := 32) (t := 0) dc_X7_bears_54 fl_RX7_19 (by decide) (by decide) rfl rfl ?_
      refine gh_iload_n dc_X7_bears_57 rfl ?_
      obtain ⟨h16, hw⟩ := hw
      refine gh_iald (k := 36) (t := 0) dc_X7_bears_58 rfl (by decide) (by decide) h16 ?_
      refine gh_if_ne (tgt := 64) dc_X7_bears_59 rfl (fun c17 => ?_) (fun c17 => ?_)
      · replace hw := hw.1 c17
        obtain ⟨y3_18, ey3_18⟩ : ∃ z, z = (x3 + (nI 1)) := ⟨_, rfl⟩
        replace hw := hw _ ey3_18
        refine gh_iinc (v := y3_18) (L' := [some (vR 32 0), some (vI x1), some (vI x2), some (vI y3_18)]) dc_X7_bears_64 rfl ((congrArg (fun z => x3 + z) gc_1).trans ey3_18.symm) (by decide) rfl rfl ?_
        refine gh_goto (tgt := 23) dc_X7_bears_67 rfl ?_
        refine gh_drop (pc' := 0) [some (vR 32 0), some (vI x1), some (vI x2), some (vI y3_18)] ⟨rfl, rfl, rfl, rfl, trivial⟩ ?_
        exact ih _ _ _ _ hw
      · replace hw := hw.2 c17
        refine gh_iload_n dc_X7_bears_62 rfl ?_
        exact gh_iret dc_X7_bears_63 hE rfl hw
theorem wk_X7_bears   (Q : Int32 → gh_M → Prop) (a0 : Int32) (a1 : Int32) (M : gh_M) (hw : wp_X7_bears  a0 a1 M Q) : gh_Calls 8 mi_X7_bears [vR 32 0, vI a0, vI a1] M (gh_Qi Q) := by
  refine gh_of (by decide) rfl 1 rfl (L0 := [some (vR 32 0), some (vI a0), some (vI a1), none]) rfl (fun wd x hE => ?_)
  unfold wp_X7_bears at hw
  refine gh_aload_n dc_X7_bears_0 rfl ?_
  refine gh_iload_n dc_X7_bears_1 rfl ?_
  refine gh_callVi (mi' := mi_X7_isCar) (as := [vI a0]) (S := []) (k := 32) (t := 0) dc_X7_bears_2 ml_RX7_180 ok_X7_isCar rfl rfl (by decide) (Nat.le_of_ble_eq_true rfl) (by decide) (by decide) rfl rfl (wk_X7_isCar _ _ _ hw) (fun r1 M2 hw => ?_)
  refine gh_if_eq (tgt := 18) dc_X7_bears_5 rfl (fun c3 => ?_) (fun c3 => ?_)
  · replace hw := hw.1 c3
    refine gh_ldc (v := (-1000001 : Int32)) dc_X7_bears_18 tw_898 ?_
    exact gh_iret dc_X7_bears_20 hE rfl hw
  · replace hw := hw.2 c3
    refine gh_iload_n dc_X7_bears_8 rfl ?_
    refine gh_iconst (v := (nI 1)) dc_X7_bears_9 gc_1 ?_
    refine gh_bipush (v := (nI 50)) dc_X7_bears_10 gb_50 ?_
    refine gh_callSi (mi' := mi_X7_in) (as := [vI a1, vI (nI 1), vI (nI 50)]) (S := []) dc_X7_bears_12 ml_RX7_51 ok_X7_in rfl rfl (by decide) (Nat.le_of_ble_eq_true rfl) (wk_X7_in _ _ _ _ _ hw) (fun r4 M5 hw => ?_)
    refine gh_if_ne (tgt := 21) dc_X7_bears_15 rfl (fun c6 => ?_) (fun c6 => ?_)
    · replace hw := hw.1 c6
      refine gh_iconst (v := (nI 1)) dc_X7_bears_21 gc_1 ?_
      refine gh_istore_n (L' := [some (vR 32 0), some (vI a0), some (vI a1), some (vI (nI 1))]) dc_X7_bears_22 (by decide) rfl rfl ?_
      refine gh_drop (pc' := 0) [some (vR 32 0), some (vI a0), some (vI a1), some (vI (nI 1))] ⟨rfl, rfl, rfl, rfl, trivial⟩ ?_
      obtain ⟨k, hw⟩ := hw
      exact lk_X7_bears_23  hE  k _ _ _ _ hw
    · replace hw := hw.2 c6
      refine gh_ldc (v := (-1000001 : Int32)) dc_X7_bears_18 tw_898 ?_
      exact gh_iret dc_X7_bears_20 hE rfl hw
theorem lk_X7_ridersOf_4 {wd : gh_Wd} {x : gh_X} {Q : Int32 → gh_M → Prop}   (hE : gh_E wd (gh_Qi Q) x)   : ∀ (n : Nat) (x1 : Int32) (x2 : Int32) (x3 : Int32) (M : gh_M), wl_X7_ridersOf_4 Q n x1 x2 x3 M → gh_J mi_X7_ridersOf 2 wd x M 4 [some (vR 32 0), some (vI x1), some (vI x2), some (vI x3)] [] := by
  intro n
  induction n with
  | zero => intro x1 x2 x3 M hw; exact hw.elim
  | succ n ih =>
    intro x1 x2 x3 M hw
    unfold wl_X7_ridersOf_4 at hw
    refine gh_iload_n dc_X7_ridersOf_4 rfl ?_
    refine gh_aload_n dc_X7_ridersOf_5 rfl ?_
    refine gh_getR (k := 32) (t := 0) dc_X7_ridersOf_6 fl_RX7_7 (by decide) (by decide) rfl rfl ?_
    refine gh_iconst (v := (nI 2)) dc_X7_ridersOf_9 gc_2 ?_
    obtain ⟨h1, hw⟩ := hw
    refine gh_iald (k := 33) (t := 0) dc_X7_ridersOf_10 rfl (by decide) (by decide) h1 ?_
    refine gh_icmp_ge (tgt := 45) dc_X7_ridersOf_11 rfl (fun c2 => ?_) (fun c2 => ?_)
    · replace hw := hw.1 c2
      refine gh_iload_n dc_X7_ridersOf_45 rfl ?_
      exact gh_iret dc_X7_ridersOf_46 hE rfl hw
    · replace hw := hw.2 c2
      refine gh_iload_n dc_X7_ridersOf_14 rfl ?_
      refine gh_iload_n dc_X7_ridersOf_15 rfl ?_
      refine gh_iload_n dc_X7_ridersOf_16 rfl ?_
      refine gh_callSi (mi' := mi_X7_has) (as := [vI x1, vI x3]) (S := [vI x2]) dc_X7_ridersOf_17 ml_RX7_216 ok_X7_has rfl rfl (by decide) (Nat.le_of_ble_eq_true rfl) (wk_X7_has _ _ _ _ hw) (fun r3 M4 hw => ?_)
      refine gh_if_eq (tgt := 36) dc_X7_ridersOf_20 rfl (fun c5 => ?_) (fun c5 => ?_)
      · replace hw := hw.1 c5
        refine gh_iconst (v := (nI 0)) dc_X7_ridersOf_36 gc_0 ?_
        refine gh_iadd dc_X7_ridersOf_37 ?_
        obtain ⟨y2_6, ey2_6⟩ : ∃ z, z = (x2 + (nI 0)) := ⟨_, rfl⟩
        rw [← ey2_6]
        replace hw := hw _ ey2_6
        refine gh_istore_n (L' := [some (vR 32 0), some (vI x1), some (vI y2_6), some (vI x3)]) dc_X7_ridersOf_38 (by decide) rfl rfl ?_
        obtain ⟨y3_7, ey3_7⟩ : ∃ z, z = (x3 + (nI 1)) := ⟨_, rfl⟩
        replace hw := hw _ ey3_7
        refine gh_iinc (v := y3_7) (L' := [some (vR 32 0), some (vI x1), some (vI y2_6), some (vI y3_7)]) dc_X7_ridersOf_39 rfl ((congrArg (fun z => x3 + z) gc_1).trans ey3_7.symm) (by decide) rfl rfl ?_
        refine gh_goto (tgt := 4) dc_X7_ridersOf_42 rfl ?_
        refine gh_drop (pc' := 0) [some (vR 32 0), some (vI x1), some (vI y2_6), some (vI y3_7)] ⟨rfl, rfl, rfl, rfl, trivial⟩ ?_
        exact ih _ _ _ _ hw
      · replace hw := hw.2 c5
        refine gh_aload_n dc_X7_ridersOf_23 rfl ?_
        refine gh_getR (k := 32) (t := 0) dc_X7_ridersOf_24 fl_RX7_7 (by decide) (by decide) rfl rfl ?_
        refine gh_iconst (v := (nI 0)) dc_X7_ridersOf_27 gc_0 ?_
        refine gh_iload_n dc_X7_ridersOf_28 rfl ?_
        refine gh_callSi (mi' := mi_X7_carAt) (as := [vI (nI 0), vI x3]) (S := [vR 33 0, vI x2]) dc_X7_ridersOf_29 ml_RX7_112 ok_X7_carAt rfl rfl (by decide) (Nat.le_of_ble_eq_true rfl) (wk_X7_carAt _ _ _ _ hw) (fun r8 M9 hw => ?_)
        obtain ⟨h10, hw⟩ := hw
        refine gh_iald (k := 33) (t := 0) dc_X7_ridersOf_32 rfl (by decide) (by decide) h10 ?_
        refine gh_goto (tgt := 37) dc_X7_ridersOf_33 rfl ?_
        refine gh_iadd dc_X7_ridersOf_37 ?_
        obtain ⟨y2_11, ey2_11⟩ : ∃ z, z = (x2 + (M9 33 0 r8.toNatClampNeg)) := ⟨_, rfl⟩
        rw [← ey2_11]
        replace hw := hw _ ey2_11
        refine gh_istore_n (L' := [some (vR 32 0), some (vI x1), some (vI y2_11), some (vI x3)]) dc_X7_ridersOf_38 (by decide) rfl rfl ?_
        obtain ⟨y3_12, ey3_12⟩ : ∃ z, z = (x3 + (nI 1)) := ⟨_, rfl⟩
        replace hw := hw _ ey3_12
        refine gh_iinc (v := y3_12) (L' := [some (vR 32 0), some (vI x1), some (vI y2_11), some (vI y3_12)]) dc_X7_ridersOf_39 rfl ((congrArg (fun z => x3 + z) gc_1).trans ey3_12.symm) (by decide) rfl rfl ?_
        refine gh_goto (tgt := 4) dc_X7_ridersOf_42 rfl ?_
        refine gh_drop (pc' := 0) [some (vR 32 0), some (vI x1), some (vI y2_11), some (vI y3_12)] ⟨rfl, rfl, rfl, rfl, trivial⟩ ?_
        exact ih _ _ _ _ hw
theorem wk_X7_ridersOf   (Q : Int32 → gh_M → Prop) (a0 : Int32) (M : gh_M) (hw : wp_X7_ridersOf  a0 M Q) : gh_Calls 2 mi_X7_ridersOf [vR 32 0, vI a0] M (gh_Qi Q) := by
  refine gh_of (by decide) rfl 2 rfl (L0 := [some (vR 32 0), some (vI a0), none, none]) rfl (fun wd x hE => ?_)
  unfold wp_X7_ridersOf at hw
  refine gh_iconst (v := (nI 0)) dc_X7_ridersOf_0 gc_0 ?_
  refine gh_istore_n (L' := [some (vR 32 0), some (vI a0), some (vI (nI 0)), none]) dc_X7_ridersOf_1 (by decide) rfl rfl ?_
  refine gh_iconst (v := (nI 0)) dc_X7_ridersOf_2 gc_0 ?_
  refine gh_istore_n (L' := [some (vR 32 0), some (vI a0), some (vI (nI 0)), some (vI (nI 0))]) dc_X7_ridersOf_3 (by decide) rfl rfl ?_
  refine gh_drop (pc' := 0) [some (vR 32 0), some (vI a0), some (vI (nI 0)), some (vI (nI 0))] ⟨rfl, rfl, rfl, rfl, trivial⟩ ?_
  obtain ⟨k, hw⟩ := hw
  exact lk_X7_ridersOf_4  hE  k _ _ _ _ hw
theorem lk_X7_sets_52 {wd : gh_Wd} {x : gh_X} {Q : Int32 → gh_M → Prop}   (hE : gh_E wd (gh_Qi Q) x)   : ∀ (n : Nat) (x1 : Int32) (x2 : Int32) (x3 : Int32) (x4 : Int32) (x5 : Int32) (x6 : Int32) (M : gh_M), wl_X7_sets_52 Q n x1 x2 x3 x4 x5 x6 M → gh_J mi_X7_sets 3 wd x M 52 [some (vR 32 0), some (vI x1), some (vI x2), some (vI x3), some (vI x4), some (vI x5), some (vI x6)] [] := by
  intro n
  induction n with
  | zero => intro x1 x2 x3 x4 x5 x6 M hw; exact hw.elim
  | succ n ih =>
    intro x1 x2 x3 x4 x5 x6 M hw
    unfold wl_X7_sets_52 at hw
    refine gh_iload dc_X7_sets_52 rfl ?_
    refine gh_iconst (v := (nI 1)) dc_X7_sets_54 gc_1 ?_
    refine gh_aload_n dc_X7_sets_55 rfl ?_
    refine gh_getR (k := 32) (t := 0) dc_X7_sets_56 fl_RX7_7 (by decide) (by decide) rfl rfl ?_
    refine gh_iconst (v := (nI 2)) dc_X7_sets_59 gc_2 ?_
    obtain ⟨h12, hw⟩ := hw
    refine gh_iald (k := 33) (t := 0) dc_X7_sets_60 rfl (by decide) (by decide) h12 ?_
    refine gh_ishl dc_X7_sets_61 ?_
    refine gh_icmp_ge (tgt := 110) dc_X7_sets_62 rfl (fun c13 => ?_) (fun c13 => ?_)
    · replace hw := hw.1 c13
      refine gh_iload_n dc_X7_sets_110 rfl ?_
      refine gh_if_ne (tgt := 118) dc_X7_sets_111 rfl (fun c14 => ?_) (fun c14 => ?_)
      · replace hw := hw.1 c14
        refine gh_iload_n dc_X7_sets_118 rfl ?_
        refine gh_iconst (v := (nI 1)) dc_X7_sets_119 gc_1 ?_
        refine gh_icmp_ne (tgt := 136) dc_X7_sets_120 rfl (fun c15 => ?_) (fun c15 => ?_)
        · replace hw := hw.1 c15
          refine gh_iload dc_X7_sets_136 rfl ?_
          exact gh_iret dc_X7_sets_138 hE rfl hw
        · replace hw := hw.2 c15
          refine gh_iload_n dc_X7_sets_123 rfl ?_
          refine gh_if_ne (tgt := 131) dc_X7_sets_124 rfl (fun c16 => ?_) (fun c16 => ?_)
          · replace hw := hw.1 c16
            refine gh_iload dc_X7_sets_131 rfl ?_
            refine gh_goto (tgt := 138) dc_X7_sets_133 rfl ?_
            exact gh_iret dc_X7_sets_138 hE rfl hw
          · replace hw := hw.2 c16
            refine gh_iconst (v := (nI 0)) dc_X7_sets_127 gc_0 ?_
            refine gh_goto (tgt := 138) dc_X7_sets_128 rfl ?_
            exact gh_iret dc_X7_sets_138 hE rfl hw
      · replace hw := hw.2 c14
        refine gh_iload_n dc_X7_sets_114 rfl ?_
        refine gh_goto (tgt := 138) dc_X7_sets_115 rfl ?_
        exact gh_iret dc_X7_sets_138 hE rfl hw
    · replace hw := hw.2 c13
      refine gh_iload dc_X7_sets_65 rfl ?_
      refine gh_aload_n dc_X7_sets_67 rfl ?_
      refine gh_iconst (v := (nI 0)) dc_X7_sets_68 gc_0 ?_
      refine gh_iconst (v := (nI 3)) dc_X7_sets_69 gc_3 ?_
      refine gh_callVi (mi' := mi_X7_carsThat) (as := [vI (nI 0), vI (nI 3)]) (S := [vI x6]) (k := 32) (t := 0) dc_X7_sets_70 ml_RX7_171 ok_X7_carsThat rfl rfl (by decide) (Nat.le_of_ble_eq_true rfl) (by decide) (by decide) rfl rfl (wk_X7_carsThat _ _ _ _ hw) (fun r17 M18 hw => ?_)
      refine gh_iand dc_X7_sets_73 ?_
      refine gh_if_ne (tgt := 104) dc_X7_sets_74 rfl (fun c19 => ?_) (fun c19 => ?_)
      · replace hw := hw.1 c19
        obtain ⟨y6_20, ey6_20⟩ : ∃ z, z = (x6 + (nI 1)) := ⟨_, rfl⟩
        replace hw := hw _ ey6_20
        refine gh_iinc (v := y6_20) (L' := [some (vR 32 0), some (vI x1), some (vI x2), some (vI x3), some (vI x4), some (vI x5), some (vI y6_20)]) dc_X7_sets_104 rfl ((congrArg (fun z => x6 + z) gc_1).trans ey6_20.symm) (by decide) rfl rfl ?_
        refine gh_goto (tgt := 52) dc_X7_sets_107 rfl ?_
        refine gh_drop (pc' := 0) [some (vR 32 0), some (vI x1), some (vI x2), some (vI x3), some (vI x4), some (vI x5), some (vI y6_20)] ⟨rfl, rfl, rfl, rfl, rfl, rfl, rfl, trivial⟩ ?_
        exact ih _ _ _ _ _ _ _ hw
      · replace hw := hw.2 c19
        refine gh_aload_n dc_X7_sets_77 rfl ?_
        refine gh_iload dc_X7_sets_78 rfl ?_
        refine gh_callVi (mi' := mi_X7_ridersOf) (as := [vI x6]) (S := []) (k := 32) (t := 0) dc_X7_sets_80 ml_RX7_225 ok_X7_ridersOf rfl rfl (by decide) (Nat.le_of_ble_eq_true rfl) (by decide) (by decide) rfl rfl (wk_X7_ridersOf _ _ _ hw) (fun r21 M22 hw => ?_)
        refine gh_iload_n dc_X7_sets_83 rfl ?_
        refine gh_icmp_ne (tgt := 104) dc_X7_sets_84 rfl (fun c23 => ?_) (fun c23 => ?_)
        · replace hw := hw.1 c23
          obtain ⟨y6_24, ey6_24⟩ : ∃ z, z = (x6 + (nI 1)) := ⟨_, rfl⟩
          replace hw := hw _ ey6_24
          refine gh_iinc (v := y6_24) (L' := [some (vR 32 0), some (vI x1), some (vI x2), some (vI x3), some (vI x4), some (vI x5), some (vI y6_24)]) dc_X7_sets_104 rfl ((congrArg (fun z => x6 + z) gc_1).trans ey6_24.symm) (by decide) rfl rfl ?_
          refine gh_goto (tgt := 52) dc_X7_sets_107 rfl ?_
          refine gh_drop (pc' := 0) [some (vR 32 0), some (vI x1), some (vI x2), some (vI x3), some (vI x4), some (vI x5), some (vI y6_24)] ⟨rfl, rfl, rfl, rfl, rfl, rfl, rfl, trivial⟩ ?_
          exact ih _ _ _ _ _ _ _ hw
        · replace hw := hw.2 c23
          obtain ⟨y3_25, ey3_25⟩ : ∃ z, z = (x3 + (nI 1)) := ⟨_, rfl⟩
          replace hw := hw _ ey3_25
          refine gh_iinc (v := y3_25) (L' := [some (vR 32 0), some (vI x1), some (vI x2), some (vI y3_25), some (vI x4), some (vI x5), some (vI x6)]) dc_X7_sets_87 rfl ((congrArg (fun z => x3 + z) gc_1).trans ey3_25.symm) (by decide) rfl rfl ?_
          refine gh_iload dc_X7_sets_90 rfl ?_
          refine gh_iload dc_X7_sets_92 rfl ?_
          refine gh_iand dc_X7_sets_94 ?_
          obtain ⟨y4_26, ey4_26⟩ : ∃ z, z = (x4 &&& x6) := ⟨_, rfl⟩
          rw [← ey4_26]
          replace hw := hw _ ey4_26
          refine gh_istore (L' := [some (vR 32 0), some (vI x1), some (vI x2), some (vI y3_25), some (vI y4_26), some (vI x5), some (vI x6)]) dc_X7_sets_95 (by decide) rfl rfl ?_
          refine gh_iload dc_X7_sets_97 rfl ?_
          refine gh_iload dc_X7_sets_99 rfl ?_
          refine gh_ior dc_X7_sets_101 ?_
          obtain ⟨y5_27, ey5_27⟩ : ∃ z, z = (x5 ||| x6) := ⟨_, rfl⟩
          rw [← ey5_27]
          replace hw := hw _ ey5_27
          refine gh_istore (L' := [some (vR 32 0), some (vI x1), some (vI x2), some (vI y3_25), some (vI y4_26), some (vI y5_27), some (vI x6)]) dc_X7_sets_102 (by decide) rfl rfl ?_
          obtain ⟨y6_28, ey6_28⟩ : ∃ z, z = (x6 + (nI 1)) := ⟨_, rfl⟩
          replace hw := hw _ ey6_28
          refine gh_iinc (v := y6_28) (L' := [some (vR 32 0), some (vI x1), some (vI x2), some (vI y3_25), some (vI y4_26), some (vI y5_27), some (vI y6_28)]) dc_X7_sets_104 rfl ((congrArg (fun z => x6 + z) gc_1).trans ey6_28.symm) (by decide) rfl rfl ?_
          refine gh_goto (tgt := 52) dc_X7_sets_107 rfl ?_
          refine gh_drop (pc' := 0) [some (vR 32 0), some (vI x1), some (vI x2), some (vI y3_25), some (vI y4_26), some (vI y5_27), some (vI y6_28)] ⟨rfl, rfl, rfl, rfl, rfl, rfl, rfl, trivial⟩ ?_
          exact ih _ _ _ _ _ _ _ hw
theorem wk_X7_sets   (Q : Int32 → gh_M → Prop) (a0 : Int32) (a1 : Int32) (M : gh_M) (hw : wp_X7_sets  a0 a1 M Q) : gh_Calls 3 mi_X7_sets [vR 32 0, vI a0, vI a1] M (gh_Qi Q) := by
  refine gh_of (by decide) rfl 4 rfl (L0 := [some (vR 32 0), some (vI a0), some (vI a1), none, none, none, none]) rfl (fun wd x hE => ?_)
  unfold wp_X7_sets at hw
  refine gh_aload_n dc_X7_sets_0 rfl ?_
  refine gh_callVi (mi' := mi_X7_isTrain) (as := []) (S := []) (k := 32) (t := 0) dc_X7_sets_1 ml_RX7_165 ok_X7_isTrain rfl rfl (by decide) (Nat.le_of_ble_eq_true rfl) (by decide) (by decide) rfl rfl (wk_X7_isTrain _ _ hw) (fun r1 M2 hw => ?_)
  refine gh_if_ne (tgt := 10) dc_X7_sets_4 rfl (fun c3 => ?_) (fun c3 => ?_)
  · replace hw := hw.1 c3
    refine gh_iload_n dc_X7_sets_10 rfl ?_
    refine gh_iconst (v := (nI 0)) dc_X7_sets_11 gc_0 ?_
    refine gh_bipush (v := (nI 24)) dc_X7_sets_12 gb_24 ?_
    refine gh_callSi (mi' := mi_X7_in) (as := [vI a0, vI (nI 0), vI (nI 24)]) (S := []) dc_X7_sets_14 ml_RX7_51 ok_X7_in rfl rfl (by decide) (Nat.le_of_ble_eq_true rfl) (wk_X7_in _ _ _ _ _ hw) (fun r4 M5 hw => ?_)
    refine gh_if_eq (tgt := 29) dc_X7_sets_17 rfl (fun c6 => ?_) (fun c6 => ?_)
    · replace hw := hw.1 c6
      refine gh_ldc (v := (-1000001 : Int32)) dc_X7_sets_29 tw_898 ?_
      exact gh_iret dc_X7_sets_31 hE rfl hw
    · replace hw := hw.2 c6
      refine gh_iload_n dc_X7_sets_20 rfl ?_
      refine gh_iconst (v := (nI 0)) dc_X7_sets_21 gc_0 ?_
      refine gh_iconst (v := (nI 2)) dc_X7_sets_22 gc_2 ?_
      refine gh_callSi (mi' := mi_X7_in) (as := [vI a1, vI (nI 0), vI (nI 2)]) (S := []) dc_X7_sets_23 ml_RX7_51 ok_X7_in rfl rfl (by decide) (Nat.le_of_ble_eq_true rfl) (wk_X7_in _ _ _ _ _ hw) (fun r7 M8 hw => ?_)
      refine gh_if_ne (tgt := 32) dc_X7_sets_26 rfl (fun c9 => ?_) (fun c9 => ?_)
      · replace hw := hw.1 c9
        refine gh_iconst (v := (nI 0)) dc_X7_sets_32 gc_0 ?_
        refine gh_istore_n (L' := [some (vR 32 0), some (vI a0), some (vI a1), some (vI (nI 0)), none, none, none]) dc_X7_sets_33 (by decide) rfl rfl ?_
        refine gh_iconst (v := (nI 1)) dc_X7_sets_34 gc_1 ?_
        refine gh_aload_n dc_X7_sets_35 rfl ?_
        refine gh_getR (k := 32) (t := 0) dc_X7_sets_36 fl_RX7_7 (by decide) (by decide) rfl rfl ?_
        refine gh_iconst (v := (nI 2)) dc_X7_sets_39 gc_2 ?_
        obtain ⟨h10, hw⟩ := hw
        refine gh_iald (k := 33) (t := 0) dc_X7_sets_40 rfl (by decide) (by decide) h10 ?_
        refine gh_ishl dc_X7_sets_41 ?_
        refine gh_iconst (v := (nI 1)) dc_X7_sets_42 gc_1 ?_
        refine gh_isub dc_X7_sets_43 ?_
        obtain ⟨y4_11, ey4_11⟩ : ∃ z, z = (((nI 1) <<< ((M8 33 0 (nI 2).toNatClampNeg) &&& 31)) - (nI 1)) := ⟨_, rfl⟩
        rw [← ey4_11]
        replace hw := hw _ ey4_11
        refine gh_istore (L' := [some (vR 32 0), some (vI a0), some (vI a1), some (vI (nI 0)), some (vI y4_11), none, none]) dc_X7_sets_44 (by decide) rfl rfl ?_
        refine gh_iconst (v := (nI 0)) dc_X7_sets_46 gc_0 ?_
        refine gh_istore (L' := [some (vR 32 0), some (vI a0), some (vI a1), some (vI (nI 0)), some (vI y4_11), some (vI (nI 0)), none]) dc_X7_sets_47 (by decide) rfl rfl ?_
        refine gh_iconst (v := (nI 0)) dc_X7_sets_49 gc_0 ?_
        refine gh_istore (L' := [some (vR 32 0), some (vI a0), some (vI a1), some (vI (nI 0)), some (vI y4_11), some (vI (nI 0)), some (vI (nI 0))]) dc_X7_sets_50 (by decide) rfl rfl ?_
        refine gh_drop (pc' := 0) [some (vR 32 0), some (vI a0), some (vI a1), some (vI (nI 0)), some (vI y4_11), some (vI (nI 0)), some (vI (nI 0))] ⟨rfl, rfl, rfl, rfl, rfl, rfl, rfl, trivial⟩ ?_
        obtain ⟨k, hw⟩ := hw
        exact lk_X7_sets_52  hE  k _ _ _ _ _ _ _ hw
      · replace hw := hw.2 c9
        refine gh_ldc (v := (-1000001 : Int32)) dc_X7_sets_29 tw_898 ?_
        exact gh_iret dc_X7_sets_31 hE rfl hw
  · replace hw := hw.2 c3
    refine gh_ldc (v := (-1000002 : Int32)) dc_X7_sets_7 tw_991 ?_
    exact gh_iret dc_X7_sets_9 hE rfl hw
theorem wk_X7_metOf   (Q : Int32 → gh_M → Prop) (a0 : Int32) (M : gh_M) (hw : wp_X7_metOf  a0 M Q) : gh_Calls 2 mi_X7_metOf [vR 32 0, vI a0] M (gh_Qi Q) := by
  refine gh_of (by decide) rfl 0 rfl (L0 := [some (vR 32 0), some (vI a0)]) rfl (fun wd x hE => ?_)
  unfold wp_X7_metOf at hw
  refine gh_aload_n dc_X7_metOf_0 rfl ?_
  refine gh_getR (k := 32) (t := 0) dc_X7_metOf_1 fl_RX7_7 (by decide) (by decide) rfl rfl ?_
  refine gh_iconst (v := (nI 0)) dc_X7_metOf_4 gc_0 ?_
  refine gh_iload_n dc_X7_metOf_5 rfl ?_
  refine gh_callSi (mi' := mi_X7_trickAt) (as := [vI (nI 0), vI a0]) (S := [vR 33 0]) dc_X7_metOf_6 ml_RX7_98 ok_X7_trickAt rfl rfl (by decide) (Nat.le_of_ble_eq_true rfl) (wk_X7_trickAt _ _ _ _ hw) (fun r1 M2 hw => ?_)
  refine gh_iconst (v := (nI 4)) dc_X7_metOf_9 gc_4 ?_
  refine gh_iadd dc_X7_metOf_10 ?_
  obtain ⟨h3, hw⟩ := hw
  refine gh_iald (k := 33) (t := 0) dc_X7_metOf_11 rfl (by decide) (by decide) h3 ?_
  exact gh_iret dc_X7_metOf_12 hE rfl hw
theorem lk_X7_share_43 {wd : gh_Wd} {x : gh_X} {Q : Int32 → gh_M → Prop}   (hE : gh_E wd (gh_Qi Q) x)   : ∀ (n : Nat) (x1 : Int32) (x2 : Int32) (x3 : Int32) (x4 : Int32) (x5 : Int32) (x6 : Int32) (M : gh_M), wl_X7_share_43 Q n x1 x2 x3 x4 x5 x6 M → gh_J mi_X7_share 3 wd x M 43 [some (vR 32 0), some (vI x1), some (vI x2), some (vI x3), some (vI x4), some (vI x5), some (vI x6)] [] := by
  intro n
  induction n with
  | zero => intro x1 x2 x3 x4 x5 x6 M hw; exact hw.elim
  | succ n ih =>
    intro x1 x2 x3 x4 x5 x6 M hw
    unfold wl_X7_share_43 at hw
    refine gh_iload dc_X7_share_43 rfl ?_
    refine gh_aload_n dc_X7_share_45 rfl ?_
    refine gh_getR (k := 32) (t := 0) dc_X7_share_46 fl_RX7_7 (by decide) (by decide) rfl rfl ?_
    refine gh_iconst (v := (nI 1)) dc_X7_share_49 gc_1 ?_
    obtain ⟨h10, hw⟩ := hw
    refine gh_iald (k := 33) (t := 0) dc_X7_share_50 rfl (by decide) (by decide) h10 ?_
    refine gh_icmp_ge (tgt := 100) dc_X7_share_51 rfl (fun c11 => ?_) (fun c11 => ?_)
    · replace hw := hw.1 c11
      refine gh_iload_n dc_X7_share_100 rfl ?_
      refine gh_aload_n dc_X7_share_101 rfl ?_
      refine gh_iload_n dc_X7_share_102 rfl ?_
      refine gh_callVi (mi' := mi_X7_metOf) (as := [vI x1]) (S := [vI x2]) (k := 32) (t := 0) dc_X7_share_103 ml_RX7_228 ok_X7_metOf rfl rfl (by decide) (Nat.le_of_ble_eq_true rfl) (by decide) (by decide) rfl rfl (wk_X7_metOf _ _ _ hw) (fun r12 M13 hw => ?_)
      refine gh_imul dc_X7_share_106 ?_
      refine gh_iload_n dc_X7_share_107 rfl ?_
      obtain ⟨h14, hw⟩ := hw
      refine gh_idiv dc_X7_share_108 h14 ?_
      refine gh_aload_n dc_X7_share_109 rfl ?_
      refine gh_iload_n dc_X7_share_110 rfl ?_
      refine gh_callVi (mi' := mi_X7_metOf) (as := [vI x1]) (S := [vI ((x2 * r12) / x3)]) (k := 32) (t := 0) dc_X7_share_111 ml_RX7_228 ok_X7_metOf rfl rfl (by decide) (Nat.le_of_ble_eq_true rfl) (by decide) (by decide) rfl rfl (wk_X7_metOf _ _ _ hw) (fun r15 M16 hw => ?_)
      refine gh_if_le (tgt := 128) dc_X7_share_114 rfl (fun c17 => ?_) (fun c17 => ?_)
      · replace hw := hw.1 c17
        refine gh_iconst (v := (nI 0)) dc_X7_share_128 gc_0 ?_
        refine gh_iadd dc_X7_share_129 ?_
        exact gh_iret dc_X7_share_130 hE rfl hw
      · replace hw := hw.2 c17
        refine gh_iload dc_X7_share_117 rfl ?_
        refine gh_iload dc_X7_share_119 rfl ?_
        refine gh_icmp_ge (tgt := 128) dc_X7_share_121 rfl (fun c18 => ?_) (fun c18 => ?_)
        · replace hw := hw.1 c18
          refine gh_iconst (v := (nI 0)) dc_X7_share_128 gc_0 ?_
          refine gh_iadd dc_X7_share_129 ?_
          exact gh_iret dc_X7_share_130 hE rfl hw
        · replace hw := hw.2 c18
          refine gh_iconst (v := (nI 1)) dc_X7_share_124 gc_1 ?_
          refine gh_goto (tgt := 129) dc_X7_share_125 rfl ?_
          refine gh_iadd dc_X7_share_129 ?_
          exact gh_iret dc_X7_share_130 hE rfl hw
    · replace hw := hw.2 c11
      refine gh_iload dc_X7_share_54 rfl ?_
      refine gh_iload_n dc_X7_share_56 rfl ?_
      refine gh_aload_n dc_X7_share_57 rfl ?_
      refine gh_iload dc_X7_share_58 rfl ?_
      refine gh_callVi (mi' := mi_X7_metOf) (as := [vI x6]) (S := [vI x2, vI x4]) (k := 32) (t := 0) dc_X7_share_60 ml_RX7_228 ok_X7_metOf rfl rfl (by decide) (Nat.le_of_ble_eq_true rfl) (by decide) (by decide) rfl rfl (wk_X7_metOf _ _ _ hw) (fun r19 M20 hw => ?_)
      refine gh_imul dc_X7_share_63 ?_
      refine gh_iload_n dc_X7_share_64 rfl ?_
      obtain ⟨h21, hw⟩ := hw
      refine gh_idiv dc_X7_share_65 h21 ?_
      refine gh_isub dc_X7_share_66 ?_
      obtain ⟨y4_22, ey4_22⟩ : ∃ z, z = (x4 - ((x2 * r19) / x3)) := ⟨_, rfl⟩
      rw [← ey4_22]
      replace hw := hw _ ey4_22
      refine gh_istore (L' := [some (vR 32 0), some (vI x1), some (vI x2), some (vI x3), some (vI y4_22), some (vI x5), some (vI x6)]) dc_X7_share_67 (by decide) rfl rfl ?_
      refine gh_iload dc_X7_share_69 rfl ?_
      refine gh_iload dc_X7_share_71 rfl ?_
      refine gh_iload_n dc_X7_share_73 rfl ?_
      refine gh_icmp_ge (tgt := 90) dc_X7_share_74 rfl (fun c23 => ?_) (fun c23 => ?_)
      · replace hw := hw.1 c23
        refine gh_iconst (v := (nI 0)) dc_X7_share_90 gc_0 ?_
        refine gh_iadd dc_X7_share_91 ?_
        obtain ⟨y5_24, ey5_24⟩ : ∃ z, z = (x5 + (nI 0)) := ⟨_, rfl⟩
        rw [← ey5_24]
        replace hw := hw _ ey5_24
        refine gh_istore (L' := [some (vR 32 0), some (vI x1), some (vI x2), some (vI x3), some (vI y4_22), some (vI y5_24), some (vI x6)]) dc_X7_share_92 (by decide) rfl rfl ?_
        obtain ⟨y6_25, ey6_25⟩ : ∃ z, z = (x6 + (nI 1)) := ⟨_, rfl⟩
        replace hw := hw _ ey6_25
        refine gh_iinc (v := y6_25) (L' := [some (vR 32 0), some (vI x1), some (vI x2), some (vI x3), some (vI y4_22), some (vI y5_24), some (vI y6_25)]) dc_X7_share_94 rfl ((congrArg (fun z => x6 + z) gc_1).trans ey6_25.symm) (by decide) rfl rfl ?_
        refine gh_goto (tgt := 43) dc_X7_share_97 rfl ?_
        refine gh_drop (pc' := 0) [some (vR 32 0), some (vI x1), some (vI x2), some (vI x3), some (vI y4_22), some (vI y5_24), some (vI y6_25)] ⟨rfl, rfl, rfl, rfl, rfl, rfl, rfl, trivial⟩ ?_
        exact ih _ _ _ _ _ _ _ hw
      · replace hw := hw.2 c23
        refine gh_aload_n dc_X7_share_77 rfl ?_
        refine gh_iload dc_X7_share_78 rfl ?_
        refine gh_callVi (mi' := mi_X7_metOf) (as := [vI x6]) (S := [vI x5]) (k := 32) (t := 0) dc_X7_share_80 ml_RX7_228 ok_X7_metOf rfl rfl (by decide) (Nat.le_of_ble_eq_true rfl) (by decide) (by decide) rfl rfl (wk_X7_metOf _ _ _ hw) (fun r26 M27 hw => ?_)
        refine gh_if_le (tgt := 90) dc_X7_share_83 rfl (fun c28 => ?_) (fun c28 => ?_)
        · replace hw := hw.1 c28
          refine gh_iconst (v := (nI 0)) dc_X7_share_90 gc_0 ?_
          refine gh_iadd dc_X7_share_91 ?_
          obtain ⟨y5_29, ey5_29⟩ : ∃ z, z = (x5 + (nI 0)) := ⟨_, rfl⟩
          rw [← ey5_29]
          replace hw := hw _ ey5_29
          refine gh_istore (L' := [some (vR 32 0), some (vI x1), some (vI x2), some (vI x3), some (vI y4_22), some (vI y5_29), some (vI x6)]) dc_X7_share_92 (by decide) rfl rfl ?_
          obtain ⟨y6_30, ey6_30⟩ : ∃ z, z = (x6 + (nI 1)) := ⟨_, rfl⟩
          replace hw := hw _ ey6_30
          refine gh_iinc (v := y6_30) (L' := [some (vR 32 0), some (vI x1), some (vI x2), some (vI x3), some (vI y4_22), some (vI y5_29), some (vI y6_30)]) dc_X7_share_94 rfl ((congrArg (fun z => x6 + z) gc_1).trans ey6_30.symm) (by decide) rfl rfl ?_
          refine gh_goto (tgt := 43) dc_X7_share_97 rfl ?_
          refine gh_drop (pc' := 0) [some (vR 32 0), some (vI x1), some (vI x2), some (vI x3), some (vI y4_22), some (vI y5_29), some (vI y6_30)] ⟨rfl, rfl, rfl, rfl, rfl, rfl, rfl, trivial⟩ ?_
          exact ih _ _ _ _ _ _ _ hw
        · replace hw := hw.2 c28
          refine gh_iconst (v := (nI 1)) dc_X7_share_86 gc_1 ?_
          refine gh_goto (tgt := 91) dc_X7_share_87 rfl ?_
          refine gh_iadd dc_X7_share_91 ?_
          obtain ⟨y5_31, ey5_31⟩ : ∃ z, z = (x5 + (nI 1)) := ⟨_, rfl⟩
          rw [← ey5_31]
          replace hw := hw _ ey5_31
          refine gh_istore (L' := [some (vR 32 0), some (vI x1), some (vI x2), some (vI x3), some (vI y4_22), some (vI y5_31), some (vI x6)]) dc_X7_share_92 (by decide) rfl rfl ?_
          obtain ⟨y6_32, ey6_32⟩ : ∃ z, z = (x6 + (nI 1)) := ⟨_, rfl⟩
          replace hw := hw _ ey6_32
          refine gh_iinc (v := y6_32) (L' := [some (vR 32 0), some (vI x1), some (vI x2), some (vI x3), some (vI y4_22), some (vI y5_31), some (vI y6_32)]) dc_X7_share_94 rfl ((congrArg (fun z => x6 + z) gc_1).trans ey6_32.symm) (by decide) rfl rfl ?_
          refine gh_goto (tgt := 43) dc_X7_share_97 rfl ?_
          refine gh_drop (pc' := 0) [some (vR 32 0), some (vI x1), some (vI x2), some (vI x3), some (vI y4_22), some (vI y5_31), some (vI y6_32)] ⟨rfl, rfl, rfl, rfl, rfl, rfl, rfl, trivial⟩ ?_
          exact ih _ _ _ _ _ _ _ hw
theorem wk_X7_share   (Q : Int32 → gh_M → Prop) (a0 : Int32) (a1 : Int32) (M : gh_M) (hw : wp_X7_share  a0 a1 M Q) : gh_Calls 3 mi_X7_share [vR 32 0, vI a0, vI a1] M (gh_Qi Q) := by
  refine gh_of (by decide) rfl 4 rfl (L0 := [some (vR 32 0), some (vI a0), some (vI a1), none, none, none, none]) rfl (fun wd x hE => ?_)
  unfold wp_X7_share at hw
  refine gh_aload_n dc_X7_share_0 rfl ?_
  refine gh_iload_n dc_X7_share_1 rfl ?_
  refine gh_callVi (mi' := mi_X7_isTrick) (as := [vI a0]) (S := []) (k := 32) (t := 0) dc_X7_share_2 ml_RX7_174 ok_X7_isTrick rfl rfl (by decide) (Nat.le_of_ble_eq_true rfl) (by decide) (by decide) rfl rfl (wk_X7_isTrick _ _ _ hw) (fun r1 M2 hw => ?_)
  refine gh_if_eq (tgt := 19) dc_X7_share_5 rfl (fun c3 => ?_) (fun c3 => ?_)
  · replace hw := hw.1 c3
    refine gh_ldc (v := (-1000001 : Int32)) dc_X7_share_19 tw_898 ?_
    exact gh_iret dc_X7_share_21 hE rfl hw
  · replace hw := hw.2 c3
    refine gh_iload_n dc_X7_share_8 rfl ?_
    refine gh_iconst (v := (nI 0)) dc_X7_share_9 gc_0 ?_
    refine gh_sipush (v := (nI 999)) dc_X7_share_10 gs_999 ?_
    refine gh_callSi (mi' := mi_X7_in) (as := [vI a1, vI (nI 0), vI (nI 999)]) (S := []) dc_X7_share_13 ml_RX7_51 ok_X7_in rfl rfl (by decide) (Nat.le_of_ble_eq_true rfl) (wk_X7_in _ _ _ _ _ hw) (fun r4 M5 hw => ?_)
    refine gh_if_ne (tgt := 22) dc_X7_share_16 rfl (fun c6 => ?_) (fun c6 => ?_)
    · replace hw := hw.1 c6
      refine gh_aload_n dc_X7_share_22 rfl ?_
      refine gh_iconst (v := (nI 0)) dc_X7_share_23 gc_0 ?_
      refine gh_callVi (mi' := mi_X7_allMet) (as := [vI (nI 0)]) (S := []) (k := 32) (t := 0) dc_X7_share_24 ml_RX7_201 ok_X7_allMet rfl rfl (by decide) (Nat.le_of_ble_eq_true rfl) (by decide) (by decide) rfl rfl (wk_X7_allMet _ _ _ hw) (fun r7 M8 hw => ?_)
      refine gh_istore_n (L' := [some (vR 32 0), some (vI a0), some (vI a1), some (vI r7), none, none, none]) dc_X7_share_27 (by decide) rfl rfl ?_
      refine gh_iload_n dc_X7_share_28 rfl ?_
      refine gh_if_ne (tgt := 34) dc_X7_share_29 rfl (fun c9 => ?_) (fun c9 => ?_)
      · replace hw := hw.1 c9
        refine gh_iload_n dc_X7_share_34 rfl ?_
        refine gh_istore (L' := [some (vR 32 0), some (vI a0), some (vI a1), some (vI r7), some (vI a1), none, none]) dc_X7_share_35 (by decide) rfl rfl ?_
        refine gh_iconst (v := (nI 0)) dc_X7_share_37 gc_0 ?_
        refine gh_istore (L' := [some (vR 32 0), some (vI a0), some (vI a1), some (vI r7), some (vI a1), some (vI (nI 0)), none]) dc_X7_share_38 (by decide) rfl rfl ?_
        refine gh_iconst (v := (nI 0)) dc_X7_share_40 gc_0 ?_
        refine gh_istore (L' := [some (vR 32 0), some (vI a0), some (vI a1), some (vI r7), some (vI a1), some (vI (nI 0)), some (vI (nI 0))]) dc_X7_share_41 (by decide) rfl rfl ?_
        refine gh_drop (pc' := 0) [some (vR 32 0), some (vI a0), some (vI a1), some (vI r7), some (vI a1), some (vI (nI 0)), some (vI (nI 0))] ⟨rfl, rfl, rfl, rfl, rfl, rfl, rfl, trivial⟩ ?_
        obtain ⟨k, hw⟩ := hw
        exact lk_X7_share_43  hE  k _ _ _ _ _ _ _ hw
      · replace hw := hw.2 c9
        refine gh_iconst (v := (nI 0)) dc_X7_share_32 gc_0 ?_
        exact gh_iret dc_X7_share_33 hE rfl hw
    · replace hw := hw.2 c6
      refine gh_ldc (v := (-1000001 : Int32)) dc_X7_share_19 tw_898 ?_
      exact gh_iret dc_X7_share_21 hE rfl hw
theorem lk_X7_chosen_10 {wd : gh_Wd} {x : gh_X} {Q : Int32 → gh_M → Prop}   (hE : gh_E wd (gh_Qi Q) x)   : ∀ (n : Nat) (x1 : Int32) (x2 : Int32) (x3 : Int32) (x4 : Int32) (M : gh_M), wl_X7_chosen_10 Q n x1 x2 x3 x4 M → gh_J mi_X7_chosen 2 wd x M 10 [some (vR 32 0), some (vI x1), some (vI x2), some (vI x3), some (vI x4), none] [] := by
  intro n
  induction n with
  | zero => intro x1 x2 x3 x4 M hw; exact hw.elim
  | succ n ih =>
    intro x1 x2 x3 x4 M hw
    unfold wl_X7_chosen_10 at hw
    refine gh_iload dc_X7_chosen_10 rfl ?_
    refine gh_aload_n dc_X7_chosen_12 rfl ?_
    refine gh_getR (k := 32) (t := 0) dc_X7_chosen_13 fl_RX7_7 (by decide) (by decide) rfl rfl ?_
    refine gh_iconst (v := (nI 1)) dc_X7_chosen_16 gc_1 ?_
    obtain ⟨h3, hw⟩ := hw
    refine gh_iald (k := 33) (t := 0) dc_X7_chosen_17 rfl (by decide) (by decide) h3 ?_
    refine gh_icmp_ge (tgt := 72) dc_X7_chosen_18 rfl (fun c4 => ?_) (fun c4 => ?_)
    · replace hw := hw.1 c4
      refine gh_iload_n dc_X7_chosen_72 rfl ?_
      exact gh_iret dc_X7_chosen_73 hE rfl hw
    · replace hw := hw.2 c4
      refine gh_iload_n dc_X7_chosen_21 rfl ?_
      refine gh_iload dc_X7_chosen_22 rfl ?_
      refine gh_callSi (mi' := mi_X7_has) (as := [vI x1, vI x4]) (S := []) dc_X7_chosen_24 ml_RX7_216 ok_X7_has rfl rfl (by decide) (Nat.le_of_ble_eq_true rfl) (wk_X7_has _ _ _ _ hw) (fun r5 M6 hw => ?_)
      refine gh_iload_n dc_X7_chosen_27 rfl ?_
      refine gh_icmp_eq (tgt := 66) dc_X7_chosen_28 rfl (fun c7 => ?_) (fun c7 => ?_)
      · replace hw := hw.1 c7
        obtain ⟨y4_8, ey4_8⟩ : ∃ z, z = (x4 + (nI 1)) := ⟨_, rfl⟩
        replace hw := hw _ ey4_8
        refine gh_iinc (v := y4_8) (L' := [some (vR 32 0), some (vI x1), some (vI x2), some (vI x3), some (vI y4_8), none]) dc_X7_chosen_66 rfl ((congrArg (fun z => x4 + z) gc_1).trans ey4_8.symm) (by decide) rfl rfl ?_
        refine gh_goto (tgt := 10) dc_X7_chosen_69 rfl ?_
        refine gh_drop (pc' := 0) [some (vR 32 0), some (vI x1), some (vI x2), some (vI x3), some (vI y4_8), none] ⟨rfl, rfl, rfl, rfl, rfl, trivial⟩ ?_
        exact ih _ _ _ _ _ hw
      · replace hw := hw.2 c7
        refine gh_aload_n dc_X7_chosen_31 rfl ?_
        refine gh_getR (k := 32) (t := 0) dc_X7_chosen_32 fl_RX7_40 (by decide) (by decide) rfl rfl ?_
        refine gh_iload_n dc_X7_chosen_35 rfl ?_
        refine gh_iconst (v := (nI 1)) dc_X7_chosen_36 gc_1 ?_
        refine gh_iload dc_X7_chosen_37 rfl ?_
        refine gh_ishl dc_X7_chosen_39 ?_
        refine gh_ixor dc_X7_chosen_40 ?_
        obtain ⟨h9, hw⟩ := hw
        refine gh_iald (k := 43) (t := 0) dc_X7_chosen_41 rfl (by decide) (by decide) h9 ?_
        obtain ⟨y5_10, ey5_10⟩ : ∃ z, z = (M6 43 0 (x1 ^^^ ((nI 1) <<< (x4 &&& 31))).toNatClampNeg) := ⟨_, rfl⟩
        rw [← ey5_10]
        replace hw := hw _ ey5_10
        refine gh_istore (L' := [some (vR 32 0), some (vI x1), some (vI x2), some (vI x3), some (vI x4), some (vI y5_10)]) dc_X7_chosen_42 (by decide) rfl rfl ?_
        refine gh_iload_n dc_X7_chosen_44 rfl ?_
        refine gh_iload dc_X7_chosen_45 rfl ?_
        refine gh_iload_n dc_X7_chosen_47 rfl ?_
        refine gh_icmp_le (tgt := 55) dc_X7_chosen_48 rfl (fun c11 => ?_) (fun c11 => ?_)
        · replace hw := hw.1 c11
          refine gh_iconst (v := (nI 0)) dc_X7_chosen_55 gc_0 ?_
          refine gh_icmp_ne (tgt := 64) dc_X7_chosen_56 rfl (fun c12 => ?_) (fun c12 => ?_)
          · replace hw := hw.1 c12
            refine gh_iload_n dc_X7_chosen_64 rfl ?_
            refine gh_istore_n (L' := [some (vR 32 0), some (vI x1), some (vI x2), some (vI x3), some (vI x4), some (vI y5_10)]) dc_X7_chosen_65 (by decide) rfl rfl ?_
            obtain ⟨y4_13, ey4_13⟩ : ∃ z, z = (x4 + (nI 1)) := ⟨_, rfl⟩
            replace hw := hw _ ey4_13
            refine gh_iinc (v := y4_13) (L' := [some (vR 32 0), some (vI x1), some (vI x2), some (vI x3), some (vI y4_13), some (vI y5_10)]) dc_X7_chosen_66 rfl ((congrArg (fun z => x4 + z) gc_1).trans ey4_13.symm) (by decide) rfl rfl ?_
            refine gh_goto (tgt := 10) dc_X7_chosen_69 rfl ?_
            refine gh_drop (pc' := 0) [some (vR 32 0), some (vI x1), some (vI x2), some (vI x3), some (vI y4_13), none] ⟨rfl, rfl, rfl, rfl, rfl, trivial⟩ ?_
            exact ih _ _ _ _ _ hw
          · replace hw := hw.2 c12
            refine gh_iload dc_X7_chosen_59 rfl ?_
            refine gh_goto (tgt := 65) dc_X7_chosen_61 rfl ?_
            refine gh_istore_n (L' := [some (vR 32 0), some (vI x1), some (vI x2), some (vI y5_10), some (vI x4), some (vI y5_10)]) dc_X7_chosen_65 (by decide) rfl rfl ?_
            obtain ⟨y4_14, ey4_14⟩ : ∃ z, z = (x4 + (nI 1)) := ⟨_, rfl⟩
            replace hw := hw _ ey4_14
            refine gh_iinc (v := y4_14) (L' := [some (vR 32 0), some (vI x1), some (vI x2), some (vI y5_10), some (vI y4_14), some (vI y5_10)]) dc_X7_chosen_66 rfl ((congrArg (fun z => x4 + z) gc_1).trans ey4_14.symm) (by decide) rfl rfl ?_
            refine gh_goto (tgt := 10) dc_X7_chosen_69 rfl ?_
            refine gh_drop (pc' := 0) [some (vR 32 0), some (vI x1), some (vI x2), some (vI y5_10), some (vI y4_14), none] ⟨rfl, rfl, rfl, rfl, rfl, trivial⟩ ?_
            exact ih _ _ _ _ _ hw
        · replace hw := hw.2 c11
          refine gh_iconst (v := (nI 1)) dc_X7_chosen_51 gc_1 ?_
          refine gh_goto (tgt := 56) dc_X7_chosen_52 rfl ?_
          refine gh_icmp_ne (tgt := 64) dc_X7_chosen_56 rfl (fun c15 => ?_) (fun c15 => ?_)
          · replace hw := hw.1 c15
            refine gh_iload_n dc_X7_chosen_64 rfl ?_
            refine gh_istore_n (L' := [some (vR 32 0), some (vI x1), some (vI x2), some (vI x3), some (vI x4), some (vI y5_10)]) dc_X7_chosen_65 (by decide) rfl rfl ?_
            obtain ⟨y4_16, ey4_16⟩ : ∃ z, z = (x4 + (nI 1)) := ⟨_, rfl⟩
            replace hw := hw _ ey4_16
            refine gh_iinc (v := y4_16) (L' := [some (vR 32 0), some (vI x1), some (vI x2), some (vI x3), some (vI y4_16), some (vI y5_10)]) dc_X7_chosen_66 rfl ((congrArg (fun z => x4 + z) gc_1).trans ey4_16.symm) (by decide) rfl rfl ?_
            refine gh_goto (tgt := 10) dc_X7_chosen_69 rfl ?_
            refine gh_drop (pc' := 0) [some (vR 32 0), some (vI x1), some (vI x2), some (vI x3), some (vI y4_16), none] ⟨rfl, rfl, rfl, rfl, rfl, trivial⟩ ?_
            exact ih _ _ _ _ _ hw
          · replace hw := hw.2 c15
            refine gh_iload dc_X7_chosen_59 rfl ?_
            refine gh_goto (tgt := 65) dc_X7_chosen_61 rfl ?_
            refine gh_istore_n (L' := [some (vR 32 0), some (vI x1), some (vI x2), some (vI y5_10), some (vI x4), some (vI y5_10)]) dc_X7_chosen_65 (by decide) rfl rfl ?_
            obtain ⟨y4_17, ey4_17⟩ : ∃ z, z = (x4 + (nI 1)) := ⟨_, rfl⟩
            replace hw := hw _ ey4_17
            refine gh_iinc (v := y4_17) (L' := [some (vR 32 0), some (vI x1), some (vI x2), some (vI y5_10), some (vI y4_17), some (vI y5_10)]) dc_X7_chosen_66 rfl ((congrArg (fun z => x4 + z) gc_1).trans ey4_17.symm) (by decide) rfl rfl ?_
            refine gh_goto (tgt := 10) dc_X7_chosen_69 rfl ?_
            refine gh_drop (pc' := 0) [some (vR 32 0), some (vI x1), some (vI x2), some (vI y5_10), some (vI y4_17), none] ⟨rfl, rfl, rfl, rfl, rfl, trivial⟩ ?_
            exact ih _ _ _ _ _ hw
theorem wk_X7_chosen   (Q : Int32 → gh_M → Prop) (a0 : Int32) (a1 : Int32) (M : gh_M) (hw : wp_X7_chosen  a0 a1 M Q) : gh_Calls 2 mi_X7_chosen [vR 32 0, vI a0, vI a1] M (gh_Qi Q) := by
  refine gh_of (by decide) rfl 3 rfl (L0 := [some (vR 32 0), some (vI a0), some (vI a1), none, none, none]) rfl (fun wd x hE => ?_)
  unfold wp_X7_chosen at hw
  refine gh_aload_n dc_X7_chosen_0 rfl ?_
  refine gh_getR (k := 32) (t := 0) dc_X7_chosen_1 fl_RX7_40 (by decide) (by decide) rfl rfl ?_
  refine gh_iload_n dc_X7_chosen_4 rfl ?_
  obtain ⟨h1, hw⟩ := hw
  refine gh_iald (k := 43) (t := 0) dc_X7_chosen_5 rfl (by decide) (by decide) h1 ?_
  obtain ⟨y3_2, ey3_2⟩ : ∃ z, z = (M 43 0 a0.toNatClampNeg) := ⟨_, rfl⟩
  rw [← ey3_2]
  replace hw := hw _ ey3_2
  refine gh_istore_n (L' := [some (vR 32 0), some (vI a0), some (vI a1), some (vI y3_2), none, none]) dc_X7_chosen_6 (by decide) rfl rfl ?_
  refine gh_iconst (v := (nI 0)) dc_X7_chosen_7 gc_0 ?_
  refine gh_istore (L' := [some (vR 32 0), some (vI a0), some (vI a1), some (vI y3_2), some (vI (nI 0)), none]) dc_X7_chosen_8 (by decide) rfl rfl ?_
  refine gh_drop (pc' := 0) [some (vR 32 0), some (vI a0), some (vI a1), some (vI y3_2), some (vI (nI 0)), none] ⟨rfl, rfl, rfl, rfl, rfl, trivial⟩ ?_
  obtain ⟨k, hw⟩ := hw
  exact lk_X7_chosen_10  hE  k _ _ _ _ _ hw
theorem lk_X7_byTurns_129 {wd : gh_Wd} {x : gh_X} {Q : Int32 → gh_M → Prop}   (hE : gh_E wd (gh_Qi Q) x) {K80 : Int32 → gh_M → Prop} (hK80 : ∀ (v3 : Int32) (m : gh_M), K80 v3 m → gh_J mi_X7_byTurns 8 wd x m 80 [some (vR 32 0), none, none, some (vI v3), none] []) : ∀ (n : Nat) (x3 : Int32) (x4 : Int32) (M : gh_M), wl_X7_byTurns_129 Q K80 n x3 x4 M → gh_J mi_X7_byTurns 8 wd x M 129 [some (vR 32 0), none, none, some (vI x3), some (vI x4)] [] := by
  intro n
  induction n with
  | zero => intro x3 x4 M hw; exact hw.elim
  | succ n ih =>
    intro x3 x4 M hw
    unfold wl_X7_byTurns_129 at hw
    refine gh_iload dc_X7_byTurns_129 rfl ?_
    refine gh_aload_n dc_X7_byTurns_131 rfl ?_
    refine gh_callVi (mi' := mi_X7_allTricks) (as := []) (S := [vI x4]) (k := 32) (t := 0) dc_X7_byTurns_132 ml_RX7_219 ok_X7_allTricks rfl rfl (by decide) (Nat.le_of_ble_eq_true rfl) (by decide) (by decide) rfl rfl (wk_X7_allTricks _ _ hw) (fun r21 M22 hw => ?_)
    refine gh_icmp_gt (tgt := 158) dc_X7_byTurns_135 rfl (fun c23 => ?_) (fun c23 => ?_)
    · replace hw := hw.1 c23
      obtain ⟨y3_24, ey3_24⟩ : ∃ z, z = (x3 + (-1 : Int32)) := ⟨_, rfl⟩
      replace hw := hw _ ey3_24
      refine gh_iinc (v := y3_24) (L' := [some (vR 32 0), none, none, some (vI y3_24), some (vI x4)]) dc_X7_byTurns_158 rfl ((congrArg (fun z => x3 + z) gc_m1).trans ey3_24.symm) (by decide) rfl rfl ?_
      refine gh_goto (tgt := 80) dc_X7_byTurns_161 rfl ?_
      refine gh_drop (pc' := 0) [some (vR 32 0), none, none, some (vI y3_24), none] ⟨rfl, rfl, trivial⟩ ?_
      exact hK80 _ _ hw
    · replace hw := hw.2 c23
      refine gh_aload_n dc_X7_byTurns_138 rfl ?_
      refine gh_getR (k := 32) (t := 0) dc_X7_byTurns_139 fl_RX7_40 (by decide) (by decide) rfl rfl ?_
      refine gh_iload dc_X7_byTurns_142 rfl ?_
      refine gh_aload_n dc_X7_byTurns_144 rfl ?_
      refine gh_getR (k := 32) (t := 0) dc_X7_byTurns_145 fl_RX7_43 (by decide) (by decide) rfl rfl ?_
      refine gh_iload dc_X7_byTurns_148 rfl ?_
      obtain ⟨h25, hw⟩ := hw
      refine gh_iald (k := 44) (t := 0) dc_X7_byTurns_150 rfl (by decide) (by decide) h25 ?_
      obtain ⟨h26, hw⟩ := hw
      refine gh_iast (k := 43) (t := 0) dc_X7_byTurns_151 rfl (by decide) (by decide) h26 ?_
      obtain ⟨M27, eM27⟩ : ∃ z, z = (gh_st M22 43 0 x4.toNatClampNeg (M22 44 0 x4.toNatClampNeg)) := ⟨_, rfl⟩
      rw [← eM27]
      replace hw := hw _ eM27
      obtain ⟨y4_28, ey4_28⟩ : ∃ z, z = (x4 + (nI 1)) := ⟨_, rfl⟩
      replace hw := hw _ ey4_28
      refine gh_iinc (v := y4_28) (L' := [some (vR 32 0), none, none, some (vI x3), some (vI y4_28)]) dc_X7_byTurns_152 rfl ((congrArg (fun z => x4 + z) gc_1).trans ey4_28.symm) (by decide) rfl rfl ?_
      refine gh_goto (tgt := 129) dc_X7_byTurns_155 rfl ?_
      refine gh_drop (pc' := 0) [some (vR 32 0), none, none, some (vI x3), some (vI y4_28)] ⟨rfl, rfl, rfl, trivial⟩ ?_
      exact ih _ _ _ hw
theorem lk_X7_byTurns_87 {wd : gh_Wd} {x : gh_X} {Q : Int32 → gh_M → Prop}   (hE : gh_E wd (gh_Qi Q) x) {K80 : Int32 → gh_M → Prop} (hK80 : ∀ (v3 : Int32) (m : gh_M), K80 v3 m → gh_J mi_X7_byTurns 8 wd x m 80 [some (vR 32 0), none, none, some (vI v3), none] []) : ∀ (n : Nat) (x3 : Int32) (x4 : Int32) (M : gh_M), wl_X7_byTurns_87 Q K80 n x3 x4 M → gh_J mi_X7_byTurns 8 wd x M 87 [some (vR 32 0), none, none, some (vI x3), some (vI x4)] [] := by
  intro n
  induction n with
  | zero => intro x3 x4 M hw; exact hw.elim
  | succ n ih =>
    intro x3 x4 M hw
    unfold wl_X7_byTurns_87 at hw
    refine gh_iload dc_X7_byTurns_87 rfl ?_
    refine gh_aload_n dc_X7_byTurns_89 rfl ?_
    refine gh_callVi (mi' := mi_X7_allTricks) (as := []) (S := [vI x4]) (k := 32) (t := 0) dc_X7_byTurns_90 ml_RX7_219 ok_X7_allTricks rfl rfl (by decide) (Nat.le_of_ble_eq_true rfl) (by decide) (by decide) rfl rfl (wk_X7_allTricks _ _ hw) (fun r18 M19 hw => ?_)
    refine gh_icmp_gt (tgt := 126) dc_X7_byTurns_93 rfl (fun c20 => ?_) (fun c20 => ?_)
    · replace hw := hw.1 c20
      refine gh_iconst (v := (nI 0)) dc_X7_byTurns_126 gc_0 ?_
      refine gh_istore (L' := [some (vR 32 0), none, none, some (vI x3), some (vI (nI 0))]) dc_X7_byTurns_127 (by decide) rfl rfl ?_
      refine gh_drop (pc' := 0) [some (vR 32 0), none, none, some (vI x3), some (vI (nI 0))] ⟨rfl, rfl, rfl, trivial⟩ ?_
      obtain ⟨k, hw⟩ := hw
      exact lk_X7_byTurns_129  hE hK80 k _ _ _ hw
    · replace hw := hw.2 c20
      refine gh_aload_n dc_X7_byTurns_96 rfl ?_
      refine gh_getR (k := 32) (t := 0) dc_X7_byTurns_97 fl_RX7_43 (by decide) (by decide) rfl rfl ?_
      refine gh_iload dc_X7_byTurns_100 rfl ?_
      refine gh_aload_n dc_X7_byTurns_102 rfl ?_
      refine gh_iload dc_X7_byTurns_103 rfl ?_
      refine gh_iload_n dc_X7_byTurns_105 rfl ?_
      refine gh_iconst (v := (nI 2)) dc_X7_byTurns_106 gc_2 ?_
      obtain ⟨h29, hw⟩ := hw
      refine gh_irem dc_X7_byTurns_107 h29 ?_
      refine gh_if_ne (tgt := 115) dc_X7_byTurns_108 rfl (fun c30 => ?_) (fun c30 => ?_)
      · replace hw := hw.1 c30
        refine gh_iconst (v := (nI 0)) dc_X7_byTurns_115 gc_0 ?_
        refine gh_callVi (mi' := mi_X7_chosen) (as := [vI x4, vI (nI 0)]) (S := [vI x4, vR 44 0]) (k := 32) (t := 0) dc_X7_byTurns_116 ml_RX7_231 ok_X7_chosen rfl rfl (by decide) (Nat.le_of_ble_eq_true rfl) (by decide) (by decide) rfl rfl (wk_X7_chosen _ _ _ _ hw) (fun r31 M32 hw => ?_)
        obtain ⟨h33, hw⟩ := hw
        refine gh_iast (k := 44) (t := 0) dc_X7_byTurns_119 rfl (by decide) (by decide) h33 ?_
        obtain ⟨M34, eM34⟩ : ∃ z, z = (gh_st M32 44 0 x4.toNatClampNeg r31) := ⟨_, rfl⟩
        rw [← eM34]
        replace hw := hw _ eM34
        obtain ⟨y4_35, ey4_35⟩ : ∃ z, z = (x4 + (nI 1)) := ⟨_, rfl⟩
        replace hw := hw _ ey4_35
        refine gh_iinc (v := y4_35) (L' := [some (vR 32 0), none, none, some (vI x3), some (vI y4_35)]) dc_X7_byTurns_120 rfl ((congrArg (fun z => x4 + z) gc_1).trans ey4_35.symm) (by decide) rfl rfl ?_
        refine gh_goto (tgt := 87) dc_X7_byTurns_123 rfl ?_
        refine gh_drop (pc' := 0) [some (vR 32 0), none, none, some (vI x3), some (vI y4_35)] ⟨rfl, rfl, rfl, trivial⟩ ?_
        exact ih _ _ _ hw
      · replace hw := hw.2 c30
        refine gh_iconst (v := (nI 1)) dc_X7_byTurns_111 gc_1 ?_
        refine gh_goto (tgt := 116) dc_X7_byTurns_112 rfl ?_
        refine gh_callVi (mi' := mi_X7_chosen) (as := [vI x4, vI (nI 1)]) (S := [vI x4, vR 44 0]) (k := 32) (t := 0) dc_X7_byTurns_116 ml_RX7_231 ok_X7_chosen rfl rfl (by decide) (Nat.le_of_ble_eq_true rfl) (by decide) (by decide) rfl rfl (wk_X7_chosen _ _ _ _ hw) (fun r36 M37 hw => ?_)
        obtain ⟨h38, hw⟩ := hw
        refine gh_iast (k := 44) (t := 0) dc_X7_byTurns_119 rfl (by decide) (by decide) h38 ?_
        obtain ⟨M39, eM39⟩ : ∃ z, z = (gh_st M37 44 0 x4.toNatClampNeg r36) := ⟨_, rfl⟩
        rw [← eM39]
        replace hw := hw _ eM39
        obtain ⟨y4_40, ey4_40⟩ : ∃ z, z = (x4 + (nI 1)) := ⟨_, rfl⟩
        replace hw := hw _ ey4_40
        refine gh_iinc (v := y4_40) (L' := [some (vR 32 0), none, none, some (vI x3), some (vI y4_40)]) dc_X7_byTurns_120 rfl ((congrArg (fun z => x4 + z) gc_1).trans ey4_40.symm) (by decide) rfl rfl ?_
        refine gh_goto (tgt := 87) dc_X7_byTurns_123 rfl ?_
        refine gh_drop (pc' := 0) [some (vR 32 0), none, none, some (vI x3), some (vI y4_40)] ⟨rfl, rfl, rfl, trivial⟩ ?_
        exact ih _ _ _ hw
theorem lk_X7_byTurns_80 {wd : gh_Wd} {x : gh_X} {Q : Int32 → gh_M → Prop}   (hE : gh_E wd (gh_Qi Q) x)   : ∀ (n : Nat) (x3 : Int32) (M : gh_M), wl_X7_byTurns_80 Q n x3 M → gh_J mi_X7_byTurns 8 wd x M 80 [some (vR 32 0), none, none, some (vI x3), none] [] := by
  intro n
  induction n with
  | zero => intro x3 M hw; exact hw.elim
  | succ n ih =>
    intro x3 M hw
    unfold wl_X7_byTurns_80 at hw
    refine gh_iload_n dc_X7_byTurns_80 rfl ?_
    refine gh_if_lt (tgt := 164) dc_X7_byTurns_81 rfl (fun c14 => ?_) (fun c14 => ?_)
    · replace hw := hw.1 c14
      refine gh_aload_n dc_X7_byTurns_164 rfl ?_
      refine gh_getR (k := 32) (t := 0) dc_X7_byTurns_165 fl_RX7_40 (by decide) (by decide) rfl rfl ?_
      refine gh_aload_n dc_X7_byTurns_168 rfl ?_
      refine gh_iconst (v := (nI 0)) dc_X7_byTurns_169 gc_0 ?_
      refine gh_callVi (mi' := mi_X7_onSet) (as := [vI (nI 0)]) (S := [vR 43 0]) (k := 32) (t := 0) dc_X7_byTurns_170 ml_RX7_189 ok_X7_onSet rfl rfl (by decide) (Nat.le_of_ble_eq_true rfl) (by decide) (by decide) rfl rfl (wk_X7_onSet _ _ _ hw) (fun r15 M16 hw => ?_)
      obtain ⟨h17, hw⟩ := hw
      refine gh_iald (k := 43) (t := 0) dc_X7_byTurns_173 rfl (by decide) (by decide) h17 ?_
      exact gh_iret dc_X7_byTurns_174 hE rfl hw
    · replace hw := hw.2 c14
      refine gh_iconst (v := (nI 0)) dc_X7_byTurns_84 gc_0 ?_
      refine gh_istore (L' := [some (vR 32 0), none, none, some (vI x3), some (vI (nI 0))]) dc_X7_byTurns_85 (by decide) rfl rfl ?_
      refine gh_drop (pc' := 0) [some (vR 32 0), none, none, some (vI x3), some (vI (nI 0))] ⟨rfl, rfl, rfl, trivial⟩ ?_
      obtain ⟨k, hw⟩ := hw
      exact lk_X7_byTurns_87  hE ih k _ _ _ hw
theorem lk_X7_byTurns_34 {wd : gh_Wd} {x : gh_X} {Q : Int32 → gh_M → Prop}   (hE : gh_E wd (gh_Qi Q) x)   : ∀ (n : Nat) (x1 : Int32) (x2 : Int32) (x3 : Int32) (M : gh_M), wl_X7_byTurns_34 Q n x1 x2 x3 M → gh_J mi_X7_byTurns 8 wd x M 34 [some (vR 32 0), some (vI x1), some (vI x2), some (vI x3), none] [] := by
  intro n
  induction n with
  | zero => intro x1 x2 x3 M hw; exact hw.elim
  | succ n ih =>
    intro x1 x2 x3 M hw
    unfold wl_X7_byTurns_34 at hw
    refine gh_iload_n dc_X7_byTurns_34 rfl ?_
    refine gh_aload_n dc_X7_byTurns_35 rfl ?_
    refine gh_callVi (mi' := mi_X7_allTricks) (as := []) (S := [vI x3]) (k := 32) (t := 0) dc_X7_byTurns_36 ml_RX7_219 ok_X7_allTricks rfl rfl (by decide) (Nat.le_of_ble_eq_true rfl) (by decide) (by decide) rfl rfl (wk_X7_allTricks _ _ hw) (fun r10 M11 hw => ?_)
    refine gh_icmp_gt (tgt := 76) dc_X7_byTurns_39 rfl (fun c12 => ?_) (fun c12 => ?_)
    · replace hw := hw.1 c12
      refine gh_iload_n dc_X7_byTurns_76 rfl ?_
      refine gh_iconst (v := (nI 1)) dc_X7_byTurns_77 gc_1 ?_
      refine gh_isub dc_X7_byTurns_78 ?_
      obtain ⟨y3_13, ey3_13⟩ : ∃ z, z = (x1 - (nI 1)) := ⟨_, rfl⟩
      rw [← ey3_13]
      replace hw := hw _ ey3_13
      refine gh_istore_n (L' := [some (vR 32 0), some (vI x1), some (vI x2), some (vI y3_13), none]) dc_X7_byTurns_79 (by decide) rfl rfl ?_
      refine gh_drop (pc' := 0) [some (vR 32 0), none, none, some (vI y3_13), none] ⟨rfl, rfl, trivial⟩ ?_
      obtain ⟨k, hw⟩ := hw
      exact lk_X7_byTurns_80  hE  k _ _ hw
    · replace hw := hw.2 c12
      refine gh_aload_n dc_X7_byTurns_42 rfl ?_
      refine gh_callVv (mi' := mi_X7_beginTry) (as := []) (S := []) (k := 32) (t := 0) dc_X7_byTurns_43 ml_RX7_192 ok_X7_beginTry rfl rfl (by decide) (Nat.le_of_ble_eq_true rfl) (by decide) (by decide) rfl rfl (wk_X7_beginTry _ _ hw) (fun M42 hw => ?_)
      refine gh_aload_n dc_X7_byTurns_46 rfl ?_
      refine gh_iload_n dc_X7_byTurns_47 rfl ?_
      refine gh_callVv (mi' := mi_X7_switchAll) (as := [vI x3]) (S := []) (k := 32) (t := 0) dc_X7_byTurns_48 ml_RX7_222 ok_X7_switchAll rfl rfl (by decide) (Nat.le_of_ble_eq_true rfl) (by decide) (by decide) rfl rfl (wk_X7_switchAll _ _ _ hw) (fun M44 hw => ?_)
      refine gh_aload_n dc_X7_byTurns_51 rfl ?_
      refine gh_iload_n dc_X7_byTurns_52 rfl ?_
      refine gh_callVv (mi' := mi_X7_goOn) (as := [vI x2]) (S := []) (k := 32) (t := 0) dc_X7_byTurns_53 ml_RX7_195 ok_X7_goOn rfl rfl (by decide) (Nat.le_of_ble_eq_true rfl) (by decide) (by decide) rfl rfl (wk_X7_goOn _ _ _ hw) (fun M46 hw => ?_)
      refine gh_aload_n dc_X7_byTurns_56 rfl ?_
      refine gh_getR (k := 32) (t := 0) dc_X7_byTurns_57 fl_RX7_40 (by decide) (by decide) rfl rfl ?_
      refine gh_iload_n dc_X7_byTurns_60 rfl ?_
      refine gh_aload_n dc_X7_byTurns_61 rfl ?_
      refine gh_sipush (v := (nI 1917)) dc_X7_byTurns_62 gs_1917 ?_
      refine gh_iconst (v := (nI 5)) dc_X7_byTurns_65 gc_5 ?_
      refine gh_callVi (mi' := mi_X7_sumOf) (as := [vI (nI 1917), vI (nI 5)]) (S := [vI x3, vR 43 0]) (k := 32) (t := 0) dc_X7_byTurns_66 ml_RX7_198 ok_X7_sumOf rfl rfl (by decide) (Nat.le_of_ble_eq_true rfl) (by decide) (by decide) rfl rfl (wk_X7_sumOf _ _ _ _ hw) (fun r47 M48 hw => ?_)
      obtain ⟨h49, hw⟩ := hw
      refine gh_iast (k := 43) (t := 0) dc_X7_byTurns_69 rfl (by decide) (by decide) h49 ?_
      obtain ⟨M50, eM50⟩ : ∃ z, z = (gh_st M48 43 0 x3.toNatClampNeg r47) := ⟨_, rfl⟩
      rw [← eM50]
      replace hw := hw _ eM50
      obtain ⟨y3_51, ey3_51⟩ : ∃ z, z = (x3 + (nI 1)) := ⟨_, rfl⟩
      replace hw := hw _ ey3_51
      refine gh_iinc (v := y3_51) (L' := [some (vR 32 0), some (vI x1), some (vI x2), some (vI y3_51), none]) dc_X7_byTurns_70 rfl ((congrArg (fun z => x3 + z) gc_1).trans ey3_51.symm) (by decide) rfl rfl ?_
      refine gh_goto (tgt := 34) dc_X7_byTurns_73 rfl ?_
      refine gh_drop (pc' := 0) [some (vR 32 0), some (vI x1), some (vI x2), some (vI y3_51), none] ⟨rfl, rfl, rfl, rfl, trivial⟩ ?_
      exact ih _ _ _ _ hw
theorem wk_X7_byTurns   (Q : Int32 → gh_M → Prop) (a0 : Int32) (a1 : Int32) (M : gh_M) (hw : wp_X7_byTurns  a0 a1 M Q) : gh_Calls 8 mi_X7_byTurns [vR 32 0, vI a0, vI a1] M (gh_Qi Q) := by
  refine gh_of (by decide) rfl 2 rfl (L0 := [some (vR 32 0), some (vI a0), some (vI a1), none, none]) rfl (fun wd x hE => ?_)
  unfold wp_X7_byTurns at hw
  refine gh_aload_n dc_X7_byTurns_0 rfl ?_
  refine gh_callVi (mi' := mi_X7_isTrain) (as := []) (S := []) (k := 32) (t := 0) dc_X7_byTurns_1 ml_RX7_165 ok_X7_isTrain rfl rfl (by decide) (Nat.le_of_ble_eq_true rfl) (by decide) (by decide) rfl rfl (wk_X7_isTrain _ _ hw) (fun r1 M2 hw => ?_)
  refine gh_if_ne (tgt := 10) dc_X7_byTurns_4 rfl (fun c3 => ?_) (fun c3 => ?_)
  · replace hw := hw.1 c3
    refine gh_iload_n dc_X7_byTurns_10 rfl ?_
    refine gh_iconst (v := (nI 0)) dc_X7_byTurns_11 gc_0 ?_
    refine gh_iconst (v := (nI 4)) dc_X7_byTurns_12 gc_4 ?_
    refine gh_callSi (mi' := mi_X7_in) (as := [vI a0, vI (nI 0), vI (nI 4)]) (S := []) dc_X7_byTurns_13 ml_RX7_51 ok_X7_in rfl rfl (by decide) (Nat.le_of_ble_eq_true rfl) (wk_X7_in _ _ _ _ _ hw) (fun r4 M5 hw => ?_)
    refine gh_if_eq (tgt := 29) dc_X7_byTurns_16 rfl (fun c6 => ?_) (fun c6 => ?_)
    · replace hw := hw.1 c6
      refine gh_ldc (v := (-1000001 : Int32)) dc_X7_byTurns_29 tw_898 ?_
      exact gh_iret dc_X7_byTurns_31 hE rfl hw
    · replace hw := hw.2 c6
      refine gh_iload_n dc_X7_byTurns_19 rfl ?_
      refine gh_iconst (v := (nI 1)) dc_X7_byTurns_20 gc_1 ?_
      refine gh_bipush (v := (nI 20)) dc_X7_byTurns_21 gb_20 ?_
      refine gh_callSi (mi' := mi_X7_in) (as := [vI a1, vI (nI 1), vI (nI 20)]) (S := []) dc_X7_byTurns_23 ml_RX7_51 ok_X7_in rfl rfl (by decide) (Nat.le_of_ble_eq_true rfl) (wk_X7_in _ _ _ _ _ hw) (fun r7 M8 hw => ?_)
      refine gh_if_ne (tgt := 32) dc_X7_byTurns_26 rfl (fun c9 => ?_) (fun c9 => ?_)
      · replace hw := hw.1 c9
        refine gh_iconst (v := (nI 0)) dc_X7_byTurns_32 gc_0 ?_
        refine gh_istore_n (L' := [some (vR 32 0), some (vI a0), some (vI a1), some (vI (nI 0)), none]) dc_X7_byTurns_33 (by decide) rfl rfl ?_
        refine gh_drop (pc' := 0) [some (vR 32 0), some (vI a0), some (vI a1), some (vI (nI 0)), none] ⟨rfl, rfl, rfl, rfl, trivial⟩ ?_
        obtain ⟨k, hw⟩ := hw
        exact lk_X7_byTurns_34  hE  k _ _ _ _ hw
      · replace hw := hw.2 c9
        refine gh_ldc (v := (-1000001 : Int32)) dc_X7_byTurns_29 tw_898 ?_
        exact gh_iret dc_X7_byTurns_31 hE rfl hw
  · replace hw := hw.2 c3
    refine gh_ldc (v := (-1000002 : Int32)) dc_X7_byTurns_7 tw_991 ?_
    exact gh_iret dc_X7_byTurns_9 hE rfl hw
theorem wk_X7_wrongRow   (Q : Int32 → gh_M → Prop) (a0 : Int32) (a1 : Int32) (a2 : Int32) (M : gh_M) (hw : wp_X7_wrongRow  a0 a1 a2 M Q) : gh_Calls 2 mi_X7_wrongRow [vR 32 0, vI a0, vI a1, vI a2] M (gh_Qi Q) := by
  refine gh_of (by decide) rfl 0 rfl (L0 := [some (vR 32 0), some (vI a0), some (vI a1), some (vI a2)]) rfl (fun wd x hE => ?_)
  unfold wp_X7_wrongRow at hw
  refine gh_aload_n dc_X7_wrongRow_0 rfl ?_
  refine gh_getR (k := 32) (t := 0) dc_X7_wrongRow_1 fl_RX7_31 (by decide) (by decide) rfl rfl ?_
  refine gh_iload_n dc_X7_wrongRow_4 rfl ?_
  obtain ⟨h1, hw⟩ := hw
  refine gh_iald (k := 40) (t := 0) dc_X7_wrongRow_5 rfl (by decide) (by decide) h1 ?_
  refine gh_if_ge (tgt := 17) dc_X7_wrongRow_6 rfl (fun c2 => ?_) (fun c2 => ?_)
  · replace hw := hw.1 c2
    refine gh_aload_n dc_X7_wrongRow_17 rfl ?_
    refine gh_iload_n dc_X7_wrongRow_18 rfl ?_
    refine gh_iload_n dc_X7_wrongRow_19 rfl ?_
    refine gh_iload_n dc_X7_wrongRow_20 rfl ?_
    refine gh_callVi (mi' := mi_X7_isPart) (as := [vI a0, vI a1, vI a2]) (S := []) (k := 32) (t := 0) dc_X7_wrongRow_21 ml_RX7_67 ok_X7_isPart rfl rfl (by decide) (Nat.le_of_ble_eq_true rfl) (by decide) (by decide) rfl rfl (wk_X7_isPart _ _ _ _ _ hw) (fun r3 M4 hw => ?_)
    refine gh_if_ne (tgt := 35) dc_X7_wrongRow_24 rfl (fun c5 => ?_) (fun c5 => ?_)
    · replace hw := hw.1 c5
      refine gh_iconst (v := (nI 0)) dc_X7_wrongRow_35 gc_0 ?_
      exact gh_iret dc_X7_wrongRow_36 hE rfl hw
    · replace hw := hw.2 c5
      refine gh_aload_n dc_X7_wrongRow_27 rfl ?_
      refine gh_iconst (v := (nI 2)) dc_X7_wrongRow_28 gc_2 ?_
      refine gh_callVi (mi' := mi_X7_found) (as := [vI (nI 2)]) (S := []) (k := 32) (t := 0) dc_X7_wrongRow_29 ml_RX7_60 ok_X7_found rfl rfl (by decide) (Nat.le_of_ble_eq_true rfl) (by decide) (by decide) rfl rfl (wk_X7_found _ _ _ hw) (fun r6 M7 hw => ?_)
      refine gh_goto (tgt := 36) dc_X7_wrongRow_32 rfl ?_
      exact gh_iret dc_X7_wrongRow_36 hE rfl hw
  · replace hw := hw.2 c2
    refine gh_aload_n dc_X7_wrongRow_9 rfl ?_
    refine gh_iconst (v := (nI 1)) dc_X7_wrongRow_10 gc_1 ?_
    refine gh_callVi (mi' := mi_X7_found) (as := [vI (nI 1)]) (S := []) (k := 32) (t := 0) dc_X7_wrongRow_11 ml_RX7_60 ok_X7_found rfl rfl (by decide) (Nat.le_of_ble_eq_true rfl) (by decide) (by decide) rfl rfl (wk_X7_found _ _ _ hw) (fun r8 M9 hw => ?_)
    refine gh_goto (tgt := 36) dc_X7_wrongRow_14 rfl ?_
    exact gh_iret dc_X7_wrongRow_36 hE rfl hw
theorem lk_X7_isTold_6 {wd : gh_Wd} {x : gh_X} {Q : Int32 → gh_M → Prop}   (hE : gh_E wd (gh_Qi Q) x)   : ∀ (n : Nat) (x1 : Int32) (x2 : Int32) (x3 : Int32) (x4 : Int32) (x5 : Int32) (x6 : Int32) (M : gh_M), wl_X7_isTold_6 Q n x1 x2 x3 x4 x5 x6 M → gh_J mi_X7_isTold 7 wd x M 6 [some (vR 32 0), some (vI x1), some (vI x2), some (vI x3), some (vI x4), some (vI x5), some (vI x6)] [] := by
  intro n
  induction n with
  | zero => intro x1 x2 x3 x4 x5 x6 M hw; exact hw.elim
  | succ n ih =>
    intro x1 x2 x3 x4 x5 x6 M hw
    unfold wl_X7_isTold_6 at hw
    refine gh_iload dc_X7_isTold_6 rfl ?_
    refine gh_iload dc_X7_isTold_8 rfl ?_
    refine gh_icmp_ge (tgt := 69) dc_X7_isTold_10 rfl (fun c1 => ?_) (fun c1 => ?_)
    · replace hw := hw.1 c1
      refine gh_iload dc_X7_isTold_69 rfl ?_
      exact gh_zret dc_X7_isTold_71 hE rfl hw.1 hw.2
    · replace hw := hw.2 c1
      refine gh_iload dc_X7_isTold_13 rfl ?_
      refine gh_if_eq (tgt := 69) dc_X7_isTold_15 rfl (fun c2 => ?_) (fun c2 => ?_)
      · replace hw := hw.1 c2
        refine gh_iload dc_X7_isTold_69 rfl ?_
        exact gh_zret dc_X7_isTold_71 hE rfl hw.1 hw.2
      · replace hw := hw.2 c2
        refine gh_aload_n dc_X7_isTold_18 rfl ?_
        refine gh_sipush (v := (nI 1917)) dc_X7_isTold_19 gs_1917 ?_
        refine gh_callVv (mi' := mi_X7_tickAt) (as := [vI (nI 1917)]) (S := []) (k := 32) (t := 0) dc_X7_isTold_22 ml_RX7_161 ok_X7_tickAt rfl rfl (by decide) (Nat.le_of_ble_eq_true rfl) (by decide) (by decide) rfl rfl (wk_X7_tickAt _ _ _ hw) (fun M4 hw => ?_)
        refine gh_aload_n dc_X7_isTold_25 rfl ?_
        refine gh_getR (k := 32) (t := 0) dc_X7_isTold_26 fl_RX7_7 (by decide) (by decide) rfl rfl ?_
        refine gh_sipush (v := (nI 1917)) dc_X7_isTold_29 gs_1917 ?_
        refine gh_iload_n dc_X7_isTold_32 rfl ?_
        refine gh_callSi (mi' := mi_X7_carAt) (as := [vI (nI 1917), vI x1]) (S := [vR 33 0]) dc_X7_isTold_33 ml_RX7_112 ok_X7_carAt rfl rfl (by decide) (Nat.le_of_ble_eq_true rfl) (wk_X7_carAt _ _ _ _ hw) (fun r5 M6 hw => ?_)
        refine gh_iconst (v := (nI 4)) dc_X7_isTold_36 gc_4 ?_
        refine gh_iadd dc_X7_isTold_37 ?_
        obtain ⟨h7, hw⟩ := hw
        refine gh_iald (k := 33) (t := 0) dc_X7_isTold_38 rfl (by decide) (by decide) h7 ?_
        refine gh_aload_n dc_X7_isTold_39 rfl ?_
        refine gh_getR (k := 32) (t := 0) dc_X7_isTold_40 fl_RX7_25 (by decide) (by decide) rfl rfl ?_
        refine gh_bipush (v := (nI 40)) dc_X7_isTold_43 gb_40 ?_
        refine gh_iload_n dc_X7_isTold_45 rfl ?_
        refine gh_imul dc_X7_isTold_46 ?_
        refine gh_iload_n dc_X7_isTold_47 rfl ?_
        refine gh_iadd dc_X7_isTold_48 ?_
        refine gh_iload dc_X7_isTold_49 rfl ?_
        refine gh_iadd dc_X7_isTold_51 ?_
        obtain ⟨h8, hw⟩ := hw
        refine gh_iald (k := 38) (t := 0) dc_X7_isTold_52 rfl (by decide) (by decide) h8 ?_
        refine gh_icmp_ne (tgt := 60) dc_X7_isTold_53 rfl (fun c9 => ?_) (fun c9 => ?_)
        · replace hw := hw.1 c9
          refine gh_iconst (v := (nI 0)) dc_X7_isTold_60 gc_0 ?_
          refine gh_istore (L' := [some (vR 32 0), some (vI x1), some (vI x2), some (vI x3), some (vI x4), some (vI (nI 0)), some (vI x6)]) dc_X7_isTold_61 (by decide) rfl rfl ?_
          obtain ⟨y6_10, ey6_10⟩ : ∃ z, z = (x6 + (nI 1)) := ⟨_, rfl⟩
          replace hw := hw _ ey6_10
          refine gh_iinc (v := y6_10) (L' := [some (vR 32 0), some (vI x1), some (vI x2), some (vI x3), some (vI x4), some (vI (nI 0)), some (vI y6_10)]) dc_X7_isTold_63 rfl ((congrArg (fun z => x6 + z) gc_1).trans ey6_10.symm) (by decide) rfl rfl ?_
          refine gh_goto (tgt := 6) dc_X7_isTold_66 rfl ?_
          refine gh_drop (pc' := 0) [some (vR 32 0), some (vI x1), some (vI x2), some (vI x3), some (vI x4), some (vI (nI 0)), some (vI y6_10)] ⟨rfl, rfl, rfl, rfl, rfl, rfl, rfl, trivial⟩ ?_
          exact ih _ _ _ _ _ _ _ hw
        · replace hw := hw.2 c9
          refine gh_iconst (v := (nI 1)) dc_X7_isTold_56 gc_1 ?_
          refine gh_goto (tgt := 61) dc_X7_isTold_57 rfl ?_
          refine gh_istore (L' := [some (vR 32 0), some (vI x1), some (vI x2), some (vI x3), some (vI x4), some (vI (nI 1)), some (vI x6)]) dc_X7_isTold_61 (by decide) rfl rfl ?_
          obtain ⟨y6_11, ey6_11⟩ : ∃ z, z = (x6 + (nI 1)) := ⟨_, rfl⟩
          replace hw := hw _ ey6_11
          refine gh_iinc (v := y6_11) (L' := [some (vR 32 0), some (vI x1), some (vI x2), some (vI x3), some (vI x4), some (vI (nI 1)), some (vI y6_11)]) dc_X7_isTold_63 rfl ((congrArg (fun z => x6 + z) gc_1).trans ey6_11.symm) (by decide) rfl rfl ?_
          refine gh_goto (tgt := 6) dc_X7_isTold_66 rfl ?_
          refine gh_drop (pc' := 0) [some (vR 32 0), some (vI x1), some (vI x2), some (vI x3), some (vI x4), some (vI (nI 1)), some (vI y6_11)] ⟨rfl, rfl, rfl, rfl, rfl, rfl, rfl, trivial⟩ ?_
          exact ih _ _ _ _ _ _ _ hw
theorem wk_X7_isTold   (Q : Int32 → gh_M → Prop) (a0 : Int32) (a1 : Int32) (a2 : Int32) (a3 : Int32) (M : gh_M) (hw : wp_X7_isTold  a0 a1 a2 a3 M Q) : gh_Calls 7 mi_X7_isTold [vR 32 0, vI a0, vI a1, vI a2, vI a3] M (gh_Qi Q) := by
  refine gh_of (by decide) rfl 2 rfl (L0 := [some (vR 32 0), some (vI a0), some (vI a1), some (vI a2), some (vI a3), none, none]) rfl (fun wd x hE => ?_)
  unfold wp_X7_isTold at hw
  refine gh_iconst (v := (nI 1)) dc_X7_isTold_0 gc_1 ?_
  refine gh_istore (L' := [some (vR 32 0), some (vI a0), some (vI a1), some (vI a2), some (vI a3), some (vI (nI 1)), none]) dc_X7_isTold_1 (by decide) rfl rfl ?_
  refine gh_iconst (v := (nI 0)) dc_X7_isTold_3 gc_0 ?_
  refine gh_istore (L' := [some (vR 32 0), some (vI a0), some (vI a1), some (vI a2), some (vI a3), some (vI (nI 1)), some (vI (nI 0))]) dc_X7_isTold_4 (by decide) rfl rfl ?_
  refine gh_drop (pc' := 0) [some (vR 32 0), some (vI a0), some (vI a1), some (vI a2), some (vI a3), some (vI (nI 1)), some (vI (nI 0))] ⟨rfl, rfl, rfl, rfl, rfl, rfl, rfl, trivial⟩ ?_
  obtain ⟨k, hw⟩ := hw
  exact lk_X7_isTold_6  hE  k _ _ _ _ _ _ _ hw
theorem lk_X7_who_114 {wd : gh_Wd} {x : gh_X} {Q : Int32 → gh_M → Prop}   (hE : gh_E wd (gh_Qi Q) x)   : ∀ (n : Nat) (x1 : Int32) (x2 : Int32) (x3 : Int32) (x4 : Int32) (x5 : Int32) (x6 : Int32) (x8 : Int32) (x10 : Int32) (x11 : Int32) (M : gh_M), wl_X7_who_114 Q n x1 x2 x3 x4 x5 x6 x8 x10 x11 M → gh_J mi_X7_who 8 wd x M 114 [some (vR 32 0), some (vI x1), some (vI x2), some (vI x3), some (vI x4), some (vI x5), some (vI x6), none, some (vI x8), none, some (vI x10), some (vI x11)] [] := by
  intro n
  induction n with
  | zero => intro x1 x2 x3 x4 x5 x6 x8 x10 x11 M hw; exact hw.elim
  | succ n ih =>
    intro x1 x2 x3 x4 x5 x6 x8 x10 x11 M hw
    unfold wl_X7_who_114 at hw
    refine gh_iload dc_X7_who_114 rfl ?_
    refine gh_iload dc_X7_who_116 rfl ?_
    refine gh_icmp_gt (tgt := 191) dc_X7_who_118 rfl (fun c24 => ?_) (fun c24 => ?_)
    · replace hw := hw.1 c24
      refine gh_aload_n dc_X7_who_191 rfl ?_
      refine gh_iload dc_X7_who_192 rfl ?_
      refine gh_callVi (mi' := mi_X7_well) (as := [vI x8]) (S := []) (k := 32) (t := 0) dc_X7_who_194 ml_RX7_64 ok_X7_well rfl rfl (by decide) (Nat.le_of_ble_eq_true rfl) (by decide) (by decide) rfl rfl (wk_X7_well _ _ _ hw) (fun r25 M26 hw => ?_)
      exact gh_iret dc_X7_who_197 hE rfl hw
    · replace hw := hw.2 c24
      refine gh_aload_n dc_X7_who_121 rfl ?_
      refine gh_callVv (mi' := mi_X7_beginTry) (as := []) (S := []) (k := 32) (t := 0) dc_X7_who_122 ml_RX7_192 ok_X7_beginTry rfl rfl (by decide) (Nat.le_of_ble_eq_true rfl) (by decide) (by decide) rfl rfl (wk_X7_beginTry _ _ hw) (fun M28 hw => ?_)
      refine gh_aload_n dc_X7_who_125 rfl ?_
      refine gh_getR (k := 32) (t := 0) dc_X7_who_126 fl_RX7_7 (by decide) (by decide) rfl rfl ?_
      refine gh_sipush (v := (nI 1917)) dc_X7_who_129 gs_1917 ?_
      refine gh_iload_n dc_X7_who_132 rfl ?_
      refine gh_callSi (mi' := mi_X7_trickAt) (as := [vI (nI 1917), vI x1]) (S := [vR 33 0]) dc_X7_who_133 ml_RX7_98 ok_X7_trickAt rfl rfl (by decide) (Nat.le_of_ble_eq_true rfl) (wk_X7_trickAt _ _ _ _ hw) (fun r29 M30 hw => ?_)
      refine gh_iload_n dc_X7_who_136 rfl ?_
      refine gh_if_ne (tgt := 144) dc_X7_who_137 rfl (fun c31 => ?_) (fun c31 => ?_)
      · replace hw := hw.1 c31
        refine gh_iload_n dc_X7_who_144 rfl ?_
        refine gh_iconst (v := (nI 1)) dc_X7_who_145 gc_1 ?_
        refine gh_icmp_ne (tgt := 153) dc_X7_who_146 rfl (fun c32 => ?_) (fun c32 => ?_)
        · replace hw := hw.1 c32
          refine gh_iconst (v := (nI 1)) dc_X7_who_153 gc_1 ?_
          refine gh_iadd dc_X7_who_154 ?_
          refine gh_iload dc_X7_who_155 rfl ?_
          obtain ⟨h33, hw⟩ := hw
          refine gh_iast (k := 33) (t := 0) dc_X7_who_157 rfl (by decide) (by decide) h33 ?_
          obtain ⟨M34, eM34⟩ : ∃ z, z = (gh_st M30 33 0 (r29 + (nI 1)).toNatClampNeg x11) := ⟨_, rfl⟩
          rw [← eM34]
          replace hw := hw _ eM34
          refine gh_iload dc_X7_who_158 rfl ?_
          refine gh_aload_n dc_X7_who_160 rfl ?_
          refine gh_iload_n dc_X7_who_161 rfl ?_
          refine gh_iload dc_X7_who_162 rfl ?_
          refine gh_iload dc_X7_who_164 rfl ?_
          refine gh_iload dc_X7_who_166 rfl ?_
          refine gh_callVi (mi' := mi_X7_isTold) (as := [vI x3, vI x4, vI x5, vI x6]) (S := [vI x8]) (k := 32) (t := 0) dc_X7_who_168 ml_RX7_238 ok_X7_isTold rfl rfl (by decide) (Nat.le_of_ble_eq_true rfl) (by decide) (by decide) rfl rfl (wk_X7_isTold _ _ _ _ _ _ hw) (fun r35 M36 hw => ?_)
          refine gh_if_eq (tgt := 181) dc_X7_who_171 rfl (fun c37 => ?_) (fun c37 => ?_)
          · replace hw := hw.1 c37
            refine gh_iconst (v := (nI 0)) dc_X7_who_181 gc_0 ?_
            refine gh_ior dc_X7_who_182 ?_
            obtain ⟨y8_38, ey8_38⟩ : ∃ z, z = (x8 ||| (nI 0)) := ⟨_, rfl⟩
            rw [← ey8_38]
            replace hw := hw _ ey8_38
            refine gh_istore (L' := [some (vR 32 0), some (vI x1), some (vI x2), some (vI x3), some (vI x4), some (vI x5), some (vI x6), none, some (vI y8_38), none, some (vI x10), some (vI x11)]) dc_X7_who_183 (by decide) rfl rfl ?_
            obtain ⟨y11_39, ey11_39⟩ : ∃ z, z = (x11 + (nI 1)) := ⟨_, rfl⟩
            replace hw := hw _ ey11_39
            refine gh_iinc (v := y11_39) (L' := [some (vR 32 0), some (vI x1), some (vI x2), some (vI x3), some (vI x4), some (vI x5), some (vI x6), none, some (vI y8_38), none, some (vI x10), some (vI y11_39)]) dc_X7_who_185 rfl ((congrArg (fun z => x11 + z) gc_1).trans ey11_39.symm) (by decide) rfl rfl ?_
            refine gh_goto (tgt := 114) dc_X7_who_188 rfl ?_
            refine gh_drop (pc' := 0) [some (vR 32 0), some (vI x1), some (vI x2), some (vI x3), some (vI x4), some (vI x5), some (vI x6), none, some (vI y8_38), none, some (vI x10), some (vI y11_39)] ⟨rfl, rfl, rfl, rfl, rfl, rfl, rfl, rfl, rfl, rfl, trivial⟩ ?_
            exact ih _ _ _ _ _ _ _ _ _ _ hw
          · replace hw := hw.2 c37
            refine gh_iconst (v := (nI 1)) dc_X7_who_174 gc_1 ?_
            refine gh_iload dc_X7_who_175 rfl ?_
            refine gh_ishl dc_X7_who_177 ?_
            refine gh_goto (tgt := 182) dc_X7_who_178 rfl ?_
            refine gh_ior dc_X7_who_182 ?_
            obtain ⟨y8_40, ey8_40⟩ : ∃ z, z = (x8 ||| ((nI 1) <<< (x11 &&& 31))) := ⟨_, rfl⟩
            rw [← ey8_40]
            replace hw := hw _ ey8_40
            refine gh_istore (L' := [some (vR 32 0), some (vI x1), some (vI x2), some (vI x3), some (vI x4), some (vI x5), some (vI x6), none, some (vI y8_40), none, some (vI x10), some (vI x11)]) dc_X7_who_183 (by decide) rfl rfl ?_
            obtain ⟨y11_41, ey11_41⟩ : ∃ z, z = (x11 + (nI 1)) := ⟨_, rfl⟩
            replace hw := hw _ ey11_41
            refine gh_iinc (v := y11_41) (L' := [some (vR 32 0), some (vI x1), some (vI x2), some (vI x3), some (vI x4), some (vI x5), some (vI x6), none, some (vI y8_40), none, some (vI x10), some (vI y11_41)]) dc_X7_who_185 rfl ((congrArg (fun z => x11 + z) gc_1).trans ey11_41.symm) (by decide) rfl rfl ?_
            refine gh_goto (tgt := 114) dc_X7_who_188 rfl ?_
            refine gh_drop (pc' := 0) [some (vR 32 0), some (vI x1), some (vI x2), some (vI x3), some (vI x4), some (vI x5), some (vI x6), none, some (vI y8_40), none, some (vI x10), some (vI y11_41)] ⟨rfl, rfl, rfl, rfl, rfl, rfl, rfl, rfl, rfl, rfl, trivial⟩ ?_
            exact ih _ _ _ _ _ _ _ _ _ _ hw
        · replace hw := hw.2 c32
          refine gh_iconst (v := (nI 2)) dc_X7_who_149 gc_2 ?_
          refine gh_goto (tgt := 154) dc_X7_who_150 rfl ?_
          refine gh_iadd dc_X7_who_154 ?_
          refine gh_iload dc_X7_who_155 rfl ?_
          obtain ⟨h42, hw⟩ := hw
          refine gh_iast (k := 33) (t := 0) dc_X7_who_157 rfl (by decide) (by decide) h42 ?_
          obtain ⟨M43, eM43⟩ : ∃ z, z = (gh_st M30 33 0 (r29 + (nI 2)).toNatClampNeg x11) := ⟨_, rfl⟩
          rw [← eM43]
          replace hw := hw _ eM43
          refine gh_iload dc_X7_who_158 rfl ?_
          refine gh_aload_n dc_X7_who_160 rfl ?_
          refine gh_iload_n dc_X7_who_161 rfl ?_
          refine gh_iload dc_X7_who_162 rfl ?_
          refine gh_iload dc_X7_who_164 rfl ?_
          refine gh_iload dc_X7_who_166 rfl ?_
          refine gh_callVi (mi' := mi_X7_isTold) (as := [vI x3, vI x4, vI x5, vI x6]) (S := [vI x8]) (k := 32) (t := 0) dc_X7_who_168 ml_RX7_238 ok_X7_isTold rfl rfl (by decide) (Nat.le_of_ble_eq_true rfl) (by decide) (by decide) rfl rfl (wk_X7_isTold _ _ _ _ _ _ hw) (fun r44 M45 hw => ?_)
          refine gh_if_eq (tgt := 181) dc_X7_who_171 rfl (fun c46 => ?_) (fun c46 => ?_)
          · replace hw := hw.1 c46
            refine gh_iconst (v := (nI 0)) dc_X7_who_181 gc_0 ?_
            refine gh_ior dc_X7_who_182 ?_
            obtain ⟨y8_47, ey8_47⟩ : ∃ z, z = (x8 ||| (nI 0)) := ⟨_, rfl⟩
            rw [← ey8_47]
            replace hw := hw _ ey8_47
            refine gh_istore (L' := [some (vR 32 0), some (vI x1), some (vI x2), some (vI x3), some (vI x4), some (vI x5), some (vI x6), none, some (vI y8_47), none, some (vI x10), some (vI x11)]) dc_X7_who_183 (by decide) rfl rfl ?_
            obtain ⟨y11_48, ey11_48⟩ : ∃ z, z = (x11 + (nI 1)) := ⟨_, rfl⟩
            replace hw := hw _ ey11_48
            refine gh_iinc (v := y11_48) (L' := [some (vR 32 0), some (vI x1), some (vI x2), some (vI x3), some (vI x4), some (vI x5), some (vI x6), none, some (vI y8_47), none, some (vI x10), some (vI y11_48)]) dc_X7_who_185 rfl ((congrArg (fun z => x11 + z) gc_1).trans ey11_48.symm) (by decide) rfl rfl ?_
            refine gh_goto (tgt := 114) dc_X7_who_188 rfl ?_
            refine gh_drop (pc' := 0) [some (vR 32 0), some (vI x1), some (vI x2), some (vI x3), some (vI x4), some (vI x5), some (vI x6), none, some (vI y8_47), none, some (vI x10), some (vI y11_48)] ⟨rfl, rfl, rfl, rfl, rfl, rfl, rfl, rfl, rfl, rfl, trivial⟩ ?_
            exact ih _ _ _ _ _ _ _ _ _ _ hw
          · replace hw := hw.2 c46
            refine gh_iconst (v := (nI 1)) dc_X7_who_174 gc_1 ?_
            refine gh_iload dc_X7_who_175 rfl ?_
            refine gh_ishl dc_X7_who_177 ?_
            refine gh_goto (tgt := 182) dc_X7_who_178 rfl ?_
            refine gh_ior dc_X7_who_182 ?_
            obtain ⟨y8_49, ey8_49⟩ : ∃ z, z = (x8 ||| ((nI 1) <<< (x11 &&& 31))) := ⟨_, rfl⟩
            rw [← ey8_49]
            replace hw := hw _ ey8_49
            refine gh_istore (L' := [some (vR 32 0), some (vI x1), some (vI x2), some (vI x3), some (vI x4), some (vI x5), some (vI x6), none, some (vI y8_49), none, some (vI x10), some (vI x11)]) dc_X7_who_183 (by decide) rfl rfl ?_
            obtain ⟨y11_50, ey11_50⟩ : ∃ z, z = (x11 + (nI 1)) := ⟨_, rfl⟩
            replace hw := hw _ ey11_50
            refine gh_iinc (v := y11_50) (L' := [some (vR 32 0), some (vI x1), some (vI x2), some (vI x3), some (vI x4), some (vI x5), some (vI x6), none, some (vI y8_49), none, some (vI x10), some (vI y11_50)]) dc_X7_who_185 rfl ((congrArg (fun z => x11 + z) gc_1).trans ey11_50.symm) (by decide) rfl rfl ?_
            refine gh_goto (tgt := 114) dc_X7_who_188 rfl ?_
            refine gh_drop (pc' := 0) [some (vR 32 0), some (vI x1), some (vI x2), some (vI x3), some (vI x4), some (vI x5), some (vI x6), none, some (vI y8_49), none, some (vI x10), some (vI y11_50)] ⟨rfl, rfl, rfl, rfl, rfl, rfl, rfl, rfl, rfl, rfl, trivial⟩ ?_
            exact ih _ _ _ _ _ _ _ _ _ _ hw
      · replace hw := hw.2 c31
        refine gh_iconst (v := (nI 0)) dc_X7_who_140 gc_0 ?_
        refine gh_goto (tgt := 154) dc_X7_who_141 rfl ?_
        refine gh_iadd dc_X7_who_154 ?_
        refine gh_iload dc_X7_who_155 rfl ?_
        obtain ⟨h51, hw⟩ := hw
        refine gh_iast (k := 33) (t := 0) dc_X7_who_157 rfl (by decide) (by decide) h51 ?_
        obtain ⟨M52, eM52⟩ : ∃ z, z = (gh_st M30 33 0 (r29 + (nI 0)).toNatClampNeg x11) := ⟨_, rfl⟩
        rw [← eM52]
        replace hw := hw _ eM52
        refine gh_iload dc_X7_who_158 rfl ?_
        refine gh_aload_n dc_X7_who_160 rfl ?_
        refine gh_iload_n dc_X7_who_161 rfl ?_
        refine gh_iload dc_X7_who_162 rfl ?_
        refine gh_iload dc_X7_who_164 rfl ?_
        refine gh_iload dc_X7_who_166 rfl ?_
        refine gh_callVi (mi' := mi_X7_isTold) (as := [vI x3, vI x4, vI x5, vI x6]) (S := [vI x8]) (k := 32) (t := 0) dc_X7_who_168 ml_RX7_238 ok_X7_isTold rfl rfl (by decide) (Nat.le_of_ble_eq_true rfl) (by decide) (by decide) rfl rfl (wk_X7_isTold _ _ _ _ _ _ hw) (fun r53 M54 hw => ?_)
        refine gh_if_eq (tgt := 181) dc_X7_who_171 rfl (fun c55 => ?_) (fun c55 => ?_)
        · replace hw := hw.1 c55
          refine gh_iconst (v := (nI 0)) dc_X7_who_181 gc_0 ?_
          refine gh_ior dc_X7_who_182 ?_
          obtain ⟨y8_56, ey8_56⟩ : ∃ z, z = (x8 ||| (nI 0)) := ⟨_, rfl⟩
          rw [← ey8_56]
          replace hw := hw _ ey8_56
          refine gh_istore (L' := [some (vR 32 0), some (vI x1), some (vI x2), some (vI x3), some (vI x4), some (vI x5), some (vI x6), none, some (vI y8_56), none, some (vI x10), some (vI x11)]) dc_X7_who_183 (by decide) rfl rfl ?_
          obtain ⟨y11_57, ey11_57⟩ : ∃ z, z = (x11 + (nI 1)) := ⟨_, rfl⟩
          replace hw := hw _ ey11_57
          refine gh_iinc (v := y11_57) (L' := [some (vR 32 0), some (vI x1), some (vI x2), some (vI x3), some (vI x4), some (vI x5), some (vI x6), none, some (vI y8_56), none, some (vI x10), some (vI y11_57)]) dc_X7_who_185 rfl ((congrArg (fun z => x11 + z) gc_1).trans ey11_57.symm) (by decide) rfl rfl ?_
          refine gh_goto (tgt := 114) dc_X7_who_188 rfl ?_
          refine gh_drop (pc' := 0) [some (vR 32 0), some (vI x1), some (vI x2), some (vI x3), some (vI x4), some (vI x5), some (vI x6), none, some (vI y8_56), none, some (vI x10), some (vI y11_57)] ⟨rfl, rfl, rfl, rfl, rfl, rfl, rfl, rfl, rfl, rfl, trivial⟩ ?_
          exact ih _ _ _ _ _ _ _ _ _ _ hw
        · replace hw := hw.2 c55
          refine gh_iconst (v := (nI 1)) dc_X7_who_174 gc_1 ?_
          refine gh_iload dc_X7_who_175 rfl ?_
          refine gh_ishl dc_X7_who_177 ?_
          refine gh_goto (tgt := 182) dc_X7_who_178 rfl ?_
          refine gh_ior dc_X7_who_182 ?_
          obtain ⟨y8_58, ey8_58⟩ : ∃ z, z = (x8 ||| ((nI 1) <<< (x11 &&& 31))) := ⟨_, rfl⟩
          rw [← ey8_58]
          replace hw := hw _ ey8_58
          refine gh_istore (L' := [some (vR 32 0), some (vI x1), some (vI x2), some (vI x3), some (vI x4), some (vI x5), some (vI x6), none, some (vI y8_58), none, some (vI x10), some (vI x11)]) dc_X7_who_183 (by decide) rfl rfl ?_
          obtain ⟨y11_59, ey11_59⟩ : ∃ z, z = (x11 + (nI 1)) := ⟨_, rfl⟩
          replace hw := hw _ ey11_59
          refine gh_iinc (v := y11_59) (L' := [some (vR 32 0), some (vI x1), some (vI x2), some (vI x3), some (vI x4), some (vI x5), some (vI x6), none, some (vI y8_58), none, some (vI x10), some (vI y11_59)]) dc_X7_who_185 rfl ((congrArg (fun z => x11 + z) gc_1).trans ey11_59.symm) (by decide) rfl rfl ?_
          refine gh_goto (tgt := 114) dc_X7_who_188 rfl ?_
          refine gh_drop (pc' := 0) [some (vR 32 0), some (vI x1), some (vI x2), some (vI x3), some (vI x4), some (vI x5), some (vI x6), none, some (vI y8_58), none, some (vI x10), some (vI y11_59)] ⟨rfl, rfl, rfl, rfl, rfl, rfl, rfl, rfl, rfl, rfl, trivial⟩ ?_
          exact ih _ _ _ _ _ _ _ _ _ _ hw
theorem wk_X7_who   (Q : Int32 → gh_M → Prop) (a0 : Int32) (a1 : Int32) (a2 : Int32) (a3 : Int32) (a4 : Int32) (a5 : Int32) (M : gh_M) (hw : wp_X7_who  a0 a1 a2 a3 a4 a5 M Q) : gh_Calls 8 mi_X7_who [vR 32 0, vI a0, vI a1, vI a2, vI a3, vI a4, vI a5] M (gh_Qi Q) := by
  refine gh_of (by decide) rfl 5 rfl (L0 := [some (vR 32 0), some (vI a0), some (vI a1), some (vI a2), some (vI a3), some (vI a4), some (vI a5), none, none, none, none, none]) rfl (fun wd x hE => ?_)
  unfold wp_X7_who at hw
  refine gh_aload_n dc_X7_who_0 rfl ?_
  refine gh_iload_n dc_X7_who_1 rfl ?_
  refine gh_callVi (mi' := mi_X7_isTrick) (as := [vI a0]) (S := []) (k := 32) (t := 0) dc_X7_who_2 ml_RX7_174 ok_X7_isTrick rfl rfl (by decide) (Nat.le_of_ble_eq_true rfl) (by decide) (by decide) rfl rfl (wk_X7_isTrick _ _ _ hw) (fun r1 M2 hw => ?_)
  refine gh_if_eq (tgt := 44) dc_X7_who_5 rfl (fun c3 => ?_) (fun c3 => ?_)
  · replace hw := hw.1 c3
    refine gh_ldc (v := (-1000001 : Int32)) dc_X7_who_44 tw_898 ?_
    exact gh_iret dc_X7_who_46 hE rfl hw
  · replace hw := hw.2 c3
    refine gh_iload_n dc_X7_who_8 rfl ?_
    refine gh_iconst (v := (nI 0)) dc_X7_who_9 gc_0 ?_
    refine gh_iconst (v := (nI 2)) dc_X7_who_10 gc_2 ?_
    refine gh_callSi (mi' := mi_X7_in) (as := [vI a1, vI (nI 0), vI (nI 2)]) (S := []) dc_X7_who_11 ml_RX7_51 ok_X7_in rfl rfl (by decide) (Nat.le_of_ble_eq_true rfl) (wk_X7_in _ _ _ _ _ hw) (fun r4 M5 hw => ?_)
    refine gh_if_eq (tgt := 44) dc_X7_who_14 rfl (fun c6 => ?_) (fun c6 => ?_)
    · replace hw := hw.1 c6
      refine gh_ldc (v := (-1000001 : Int32)) dc_X7_who_44 tw_898 ?_
      exact gh_iret dc_X7_who_46 hE rfl hw
    · replace hw := hw.2 c6
      refine gh_aload_n dc_X7_who_17 rfl ?_
      refine gh_iload_n dc_X7_who_18 rfl ?_
      refine gh_callVi (mi' := mi_X7_isCar) (as := [vI a2]) (S := []) (k := 32) (t := 0) dc_X7_who_19 ml_RX7_180 ok_X7_isCar rfl rfl (by decide) (Nat.le_of_ble_eq_true rfl) (by decide) (by decide) rfl rfl (wk_X7_isCar _ _ _ hw) (fun r7 M8 hw => ?_)
      refine gh_if_eq (tgt := 44) dc_X7_who_22 rfl (fun c9 => ?_) (fun c9 => ?_)
      · replace hw := hw.1 c9
        refine gh_ldc (v := (-1000001 : Int32)) dc_X7_who_44 tw_898 ?_
        exact gh_iret dc_X7_who_46 hE rfl hw
      · replace hw := hw.2 c9
        refine gh_iload dc_X7_who_25 rfl ?_
        refine gh_callSi (mi' := mi_X7_isRow) (as := [vI a3]) (S := []) dc_X7_who_27 ml_RX7_55 ok_X7_isRow rfl rfl (by decide) (Nat.le_of_ble_eq_true rfl) (wk_X7_isRow _ _ _ hw) (fun r10 M11 hw => ?_)
        refine gh_if_eq (tgt := 44) dc_X7_who_30 rfl (fun c12 => ?_) (fun c12 => ?_)
        · replace hw := hw.1 c12
          refine gh_ldc (v := (-1000001 : Int32)) dc_X7_who_44 tw_898 ?_
          exact gh_iret dc_X7_who_46 hE rfl hw
        · replace hw := hw.2 c12
          refine gh_iload dc_X7_who_33 rfl ?_
          refine gh_iconst (v := (nI 1)) dc_X7_who_35 gc_1 ?_
          refine gh_bipush (v := (nI 12)) dc_X7_who_36 gb_12 ?_
          refine gh_callSi (mi' := mi_X7_in) (as := [vI a5, vI (nI 1), vI (nI 12)]) (S := []) dc_X7_who_38 ml_RX7_51 ok_X7_in rfl rfl (by decide) (Nat.le_of_ble_eq_true rfl) (wk_X7_in _ _ _ _ _ hw) (fun r13 M14 hw => ?_)
          refine gh_if_ne (tgt := 47) dc_X7_who_41 rfl (fun c15 => ?_) (fun c15 => ?_)
          · replace hw := hw.1 c15
            refine gh_aload_n dc_X7_who_47 rfl ?_
            refine gh_iload dc_X7_who_48 rfl ?_
            refine gh_iload dc_X7_who_50 rfl ?_
            refine gh_iload dc_X7_who_52 rfl ?_
            refine gh_callVi (mi' := mi_X7_wrongRow) (as := [vI a3, vI a4, vI a5]) (S := []) (k := 32) (t := 0) dc_X7_who_54 ml_RX7_235 ok_X7_wrongRow rfl rfl (by decide) (Nat.le_of_ble_eq_true rfl) (by decide) (by decide) rfl rfl (wk_X7_wrongRow _ _ _ _ _ hw) (fun r16 M17 hw => ?_)
            refine gh_istore (L' := [some (vR 32 0), some (vI a0), some (vI a1), some (vI a2), some (vI a3), some (vI a4), some (vI a5), some (vI r16), none, none, none, none]) dc_X7_who_57 (by decide) rfl rfl ?_
            refine gh_iload dc_X7_who_59 rfl ?_
            refine gh_if_ge (tgt := 67) dc_X7_who_61 rfl (fun c18 => ?_) (fun c18 => ?_)
            · replace hw := hw.1 c18
              refine gh_iconst (v := (nI 0)) dc_X7_who_67 gc_0 ?_
              refine gh_istore (L' := [some (vR 32 0), some (vI a0), some (vI a1), some (vI a2), some (vI a3), some (vI a4), some (vI a5), some (vI r16), some (vI (nI 0)), none, none, none]) dc_X7_who_68 (by decide) rfl rfl ?_
              refine gh_iload_n dc_X7_who_70 rfl ?_
              refine gh_iconst (v := (nI 2)) dc_X7_who_71 gc_2 ?_
              refine gh_icmp_ne (tgt := 79) dc_X7_who_72 rfl (fun c19 => ?_) (fun c19 => ?_)
              · replace hw := hw.1 c19
                refine gh_iconst (v := (nI 1)) dc_X7_who_79 gc_1 ?_
                refine gh_istore (L' := [some (vR 32 0), some (vI a0), some (vI a1), some (vI a2), some (vI a3), some (vI a4), some (vI a5), some (vI r16), some (vI (nI 0)), some (vI (nI 1)), none, none]) dc_X7_who_80 (by decide) rfl rfl ?_
                refine gh_iload_n dc_X7_who_82 rfl ?_
                refine gh_if_ne (tgt := 90) dc_X7_who_83 rfl (fun c20 => ?_) (fun c20 => ?_)
                · replace hw := hw.1 c20
                  refine gh_iload_n dc_X7_who_90 rfl ?_
                  refine gh_iconst (v := (nI 1)) dc_X7_who_91 gc_1 ?_
                  refine gh_icmp_ne (tgt := 100) dc_X7_who_92 rfl (fun c21 => ?_) (fun c21 => ?_)
                  · replace hw := hw.1 c21
                    refine gh_aload_n dc_X7_who_100 rfl ?_
                    refine gh_getR (k := 32) (t := 0) dc_X7_who_101 fl_RX7_7 (by decide) (by decide) rfl rfl ?_
                    refine gh_iconst (v := (nI 0)) dc_X7_who_104 gc_0 ?_
                    obtain ⟨h22, hw⟩ := hw
                    refine gh_iald (k := 33) (t := 0) dc_X7_who_105 rfl (by decide) (by decide) h22 ?_
                    refine gh_iconst (v := (nI 1)) dc_X7_who_106 gc_1 ?_
                    refine gh_isub dc_X7_who_107 ?_
                    obtain ⟨y10_23, ey10_23⟩ : ∃ z, z = ((M17 33 0 (nI 0).toNatClampNeg) - (nI 1)) := ⟨_, rfl⟩
                    rw [← ey10_23]
                    replace hw := hw _ ey10_23
                    refine gh_istore (L' := [some (vR 32 0), some (vI a0), some (vI a1), some (vI a2), some (vI a3), some (vI a4), some (vI a5), some (vI r16), some (vI (nI 0)), some (vI (nI 1)), some (vI y10_23), none]) dc_X7_who_108 (by decide) rfl rfl ?_
                    refine gh_iload dc_X7_who_110 rfl ?_
                    refine gh_istore (L' := [some (vR 32 0), some (vI a0), some (vI a1), some (vI a2), some (vI a3), some (vI a4), some (vI a5), some (vI r16), some (vI (nI 0)), some (vI (nI 1)), some (vI y10_23), some (vI (nI 1))]) dc_X7_who_112 (by decide) rfl rfl ?_
                    refine gh_drop (pc' := 0) [some (vR 32 0), some (vI a0), some (vI a1), some (vI a2), some (vI a3), some (vI a4), some (vI a5), none, some (vI (nI 0)), none, some (vI y10_23), some (vI (nI 1))] ⟨rfl, rfl, rfl, rfl, rfl, rfl, rfl, rfl, rfl, rfl, trivial⟩ ?_
                    obtain ⟨k, hw⟩ := hw
                    exact lk_X7_who_114  hE  k _ _ _ _ _ _ _ _ _ _ hw
                  · replace hw := hw.2 c21
                    refine gh_bipush (v := (nI 9)) dc_X7_who_95 gb_9 ?_
                    refine gh_goto (tgt := 108) dc_X7_who_97 rfl ?_
                    refine gh_istore (L' := [some (vR 32 0), some (vI a0), some (vI a1), some (vI a2), some (vI a3), some (vI a4), some (vI a5), some (vI r16), some (vI (nI 0)), some (vI (nI 1)), some (vI (nI 9)), none]) dc_X7_who_108 (by decide) rfl rfl ?_
                    refine gh_iload dc_X7_who_110 rfl ?_
                    refine gh_istore (L' := [some (vR 32 0), some (vI a0), some (vI a1), some (vI a2), some (vI a3), some (vI a4), some (vI a5), some (vI r16), some (vI (nI 0)), some (vI (nI 1)), some (vI (nI 9)), some (vI (nI 1))]) dc_X7_who_112 (by decide) rfl rfl ?_
                    refine gh_drop (pc' := 0) [some (vR 32 0), some (vI a0), some (vI a1), some (vI a2), some (vI a3), some (vI a4), some (vI a5), none, some (vI (nI 0)), none, some (vI (nI 9)), some (vI (nI 1))] ⟨rfl, rfl, rfl, rfl, rfl, rfl, rfl, rfl, rfl, rfl, trivial⟩ ?_
                    obtain ⟨k, hw⟩ := hw
                    exact lk_X7_who_114  hE  k _ _ _ _ _ _ _ _ _ _ hw
                · replace hw := hw.2 c20
                  refine gh_iconst (v := (nI 5)) dc_X7_who_86 gc_5 ?_
                  refine gh_goto (tgt := 108) dc_X7_who_87 rfl ?_
                  refine gh_istore (L' := [some (vR 32 0), some (vI a0), some (vI a1), some (vI a2), some (vI a3), some (vI a4), some (vI a5), some (vI r16), some (vI (nI 0)), some (vI (nI 1)), some (vI (nI 5)), none]) dc_X7_who_108 (by decide) rfl rfl ?_
                  refine gh_iload dc_X7_who_110 rfl ?_
                  refine gh_istore (L' := [some (vR 32 0), some (vI a0), some (vI a1), some (vI a2), some (vI a3), some (vI a4), some (vI a5), some (vI r16), some (vI (nI 0)), some (vI (nI 1)), some (vI (nI 5)), some (vI (nI 1))]) dc_X7_who_112 (by decide) rfl rfl ?_
                  refine gh_drop (pc' := 0) [some (vR 32 0), some (vI a0), some (vI a1), some (vI a2), some (vI a3), some (vI a4), some (vI a5), none, some (vI (nI 0)), none, some (vI (nI 5)), some (vI (nI 1))] ⟨rfl, rfl, rfl, rfl, rfl, rfl, rfl, rfl, rfl, rfl, trivial⟩ ?_
                  obtain ⟨k, hw⟩ := hw
                  exact lk_X7_who_114  hE  k _ _ _ _ _ _ _ _ _ _ hw
              · replace hw := hw.2 c19
                refine gh_iconst (v := (nI 0)) dc_X7_who_75 gc_0 ?_
                refine gh_goto (tgt := 80) dc_X7_who_76 rfl ?_
                refine gh_istore (L' := [some (vR 32 0), some (vI a0), some (vI a1), some (vI a2), some (vI a3), some (vI a4), some (vI a5), some (vI r16), some (vI (nI 0)), some (vI (nI 0)), none, none]) dc_X7_who_80 (by decide) rfl rfl ?_
                refine gh_iload_n dc_X7_who_82 rfl ?_
                refine gh_if_ne (tgt := 90) dc_X7_who_83 rfl (fun c60 => ?_) (fun c60 => ?_)
                · replace hw := hw.1 c60
                  refine gh_iload_n dc_X7_who_90 rfl ?_
                  refine gh_iconst (v := (nI 1)) dc_X7_who_91 gc_1 ?_
                  refine gh_icmp_ne (tgt := 100) dc_X7_who_92 rfl (fun c61 => ?_) (fun c61 => ?_)
                  · replace hw := hw.1 c61
                    refine gh_aload_n dc_X7_who_100 rfl ?_
                    refine gh_getR (k := 32) (t := 0) dc_X7_who_101 fl_RX7_7 (by decide) (by decide) rfl rfl ?_
                    refine gh_iconst (v := (nI 0)) dc_X7_who_104 gc_0 ?_
                    obtain ⟨h62, hw⟩ := hw
                    refine gh_iald (k := 33) (t := 0) dc_X7_who_105 rfl (by decide) (by decide) h62 ?_
                    refine gh_iconst (v := (nI 1)) dc_X7_who_106 gc_1 ?_
                    refine gh_isub dc_X7_who_107 ?_
                    obtain ⟨y10_63, ey10_63⟩ : ∃ z, z = ((M17 33 0 (nI 0).toNatClampNeg) - (nI 1)) := ⟨_, rfl⟩
                    rw [← ey10_63]
                    replace hw := hw _ ey10_63
                    refine gh_istore (L' := [some (vR 32 0), some (vI a0), some (vI a1), some (vI a2), some (vI a3), some (vI a4), some (vI a5), some (vI r16), some (vI (nI 0)), some (vI (nI 0)), some (vI y10_63), none]) dc_X7_who_108 (by decide) rfl rfl ?_
                    refine gh_iload dc_X7_who_110 rfl ?_
                    refine gh_istore (L' := [some (vR 32 0), some (vI a0), some (vI a1), some (vI a2), some (vI a3), some (vI a4), some (vI a5), some (vI r16), some (vI (nI 0)), some (vI (nI 0)), some (vI y10_63), some (vI (nI 0))]) dc_X7_who_112 (by decide) rfl rfl ?_
                    refine gh_drop (pc' := 0) [some (vR 32 0), some (vI a0), some (vI a1), some (vI a2), some (vI a3), some (vI a4), some (vI a5), none, some (vI (nI 0)), none, some (vI y10_63), some (vI (nI 0))] ⟨rfl, rfl, rfl, rfl, rfl, rfl, rfl, rfl, rfl, rfl, trivial⟩ ?_
                    obtain ⟨k, hw⟩ := hw
                    exact lk_X7_who_114  hE  k _ _ _ _ _ _ _ _ _ _ hw
                  · replace hw := hw.2 c61
                    refine gh_bipush (v := (nI 9)) dc_X7_who_95 gb_9 ?_
                    refine gh_goto (tgt := 108) dc_X7_who_97 rfl ?_
                    refine gh_istore (L' := [some (vR 32 0), some (vI a0), some (vI a1), some (vI a2), some (vI a3), some (vI a4), some (vI a5), some (vI r16), some (vI (nI 0)), some (vI (nI 0)), some (vI (nI 9)), none]) dc_X7_who_108 (by decide) rfl rfl ?_
                    refine gh_iload dc_X7_who_110 rfl ?_
                    refine gh_istore (L' := [some (vR 32 0), some (vI a0), some (vI a1), some (vI a2), some (vI a3), some (vI a4), some (vI a5), some (vI r16), some (vI (nI 0)), some (vI (nI 0)), some (vI (nI 9)), some (vI (nI 0))]) dc_X7_who_112 (by decide) rfl rfl ?_
                    refine gh_drop (pc' := 0) [some (vR 32 0), some (vI a0), some (vI a1), some (vI a2), some (vI a3), some (vI a4), some (vI a5), none, some (vI (nI 0)), none, some (vI (nI 9)), some (vI (nI 0))] ⟨rfl, rfl, rfl, rfl, rfl, rfl, rfl, rfl, rfl, rfl, trivial⟩ ?_
                    obtain ⟨k, hw⟩ := hw
                    exact lk_X7_who_114  hE  k _ _ _ _ _ _ _ _ _ _ hw
                · replace hw := hw.2 c60
                  refine gh_iconst (v := (nI 5)) dc_X7_who_86 gc_5 ?_
                  refine gh_goto (tgt := 108) dc_X7_who_87 rfl ?_
                  refine gh_istore (L' := [some (vR 32 0), some (vI a0), some (vI a1), some (vI a2), some (vI a3), some (vI a4), some (vI a5), some (vI r16), some (vI (nI 0)), some (vI (nI 0)), some (vI (nI 5)), none]) dc_X7_who_108 (by decide) rfl rfl ?_
                  refine gh_iload dc_X7_who_110 rfl ?_
                  refine gh_istore (L' := [some (vR 32 0), some (vI a0), some (vI a1), some (vI a2), some (vI a3), some (vI a4), some (vI a5), some (vI r16), some (vI (nI 0)), some (vI (nI 0)), some (vI (nI 5)), some (vI (nI 0))]) dc_X7_who_112 (by decide) rfl rfl ?_
                  refine gh_drop (pc' := 0) [some (vR 32 0), some (vI a0), some (vI a1), some (vI a2), some (vI a3), some (vI a4), some (vI a5), none, some (vI (nI 0)), none, some (vI (nI 5)), some (vI (nI 0))] ⟨rfl, rfl, rfl, rfl, rfl, rfl, rfl, rfl, rfl, rfl, trivial⟩ ?_
                  obtain ⟨k, hw⟩ := hw
                  exact lk_X7_who_114  hE  k _ _ _ _ _ _ _ _ _ _ hw
            · replace hw := hw.2 c18
              refine gh_iload dc_X7_who_64 rfl ?_
              exact gh_iret dc_X7_who_66 hE rfl hw
          · replace hw := hw.2 c15
            refine gh_ldc (v := (-1000001 : Int32)) dc_X7_who_44 tw_898 ?_
            exact gh_iret dc_X7_who_46 hE rfl hw
theorem lk_X7_nerves_68 {wd : gh_Wd} {x : gh_X} {Q : Int32 → gh_M → Prop}   (hE : gh_E wd (gh_Qi Q) x)   : ∀ (n : Nat) (x1 : Int32) (x2 : Int32) (x3 : Int32) (x4 : Int32) (x5 : Int32) (x7 : Int32) (x8 : Int32) (x9 : Int32) (M : gh_M), wl_X7_nerves_68 Q n x1 x2 x3 x4 x5 x7 x8 x9 M → gh_J mi_X7_nerves 8 wd x M 68 [some (vR 32 0), some (vI x1), some (vI x2), some (vI x3), some (vI x4), some (vI x5), none, some (vI x7), some (vI x8), some (vI x9)] [] := by
  intro n
  induction n with
  | zero => intro x1 x2 x3 x4 x5 x7 x8 x9 M hw; exact hw.elim
  | succ n ih =>
    intro x1 x2 x3 x4 x5 x7 x8 x9 M hw
    unfold wl_X7_nerves_68 at hw
    refine gh_iload dc_X7_nerves_68 rfl ?_
    refine gh_iconst (v := (nI 1)) dc_X7_nerves_70 gc_1 ?_
    refine gh_icmp_lt (tgt := 120) dc_X7_nerves_71 rfl (fun c16 => ?_) (fun c16 => ?_)
    · replace hw := hw.1 c16
      refine gh_aload_n dc_X7_nerves_120 rfl ?_
      refine gh_iload_n dc_X7_nerves_121 rfl ?_
      refine gh_if_ne (tgt := 130) dc_X7_nerves_122 rfl (fun c17 => ?_) (fun c17 => ?_)
      · replace hw := hw.1 c17
        refine gh_iload dc_X7_nerves_130 rfl ?_
        refine gh_callVi (mi' := mi_X7_well) (as := [vI x8]) (S := []) (k := 32) (t := 0) dc_X7_nerves_132 ml_RX7_64 ok_X7_well rfl rfl (by decide) (Nat.le_of_ble_eq_true rfl) (by decide) (by decide) rfl rfl (wk_X7_well _ _ _ hw) (fun r18 M19 hw => ?_)
        exact gh_iret dc_X7_nerves_135 hE rfl hw
      · replace hw := hw.2 c17
        refine gh_iload dc_X7_nerves_125 rfl ?_
        refine gh_goto (tgt := 132) dc_X7_nerves_127 rfl ?_
        refine gh_callVi (mi' := mi_X7_well) (as := [vI x7]) (S := []) (k := 32) (t := 0) dc_X7_nerves_132 ml_RX7_64 ok_X7_well rfl rfl (by decide) (Nat.le_of_ble_eq_true rfl) (by decide) (by decide) rfl rfl (wk_X7_well _ _ _ hw) (fun r20 M21 hw => ?_)
        exact gh_iret dc_X7_nerves_135 hE rfl hw
    · replace hw := hw.2 c16
      refine gh_aload_n dc_X7_nerves_74 rfl ?_
      refine gh_callVv (mi' := mi_X7_beginTry) (as := []) (S := []) (k := 32) (t := 0) dc_X7_nerves_75 ml_RX7_192 ok_X7_beginTry rfl rfl (by decide) (Nat.le_of_ble_eq_true rfl) (by decide) (by decide) rfl rfl (wk_X7_beginTry _ _ hw) (fun M23 hw => ?_)
      refine gh_aload_n dc_X7_nerves_78 rfl ?_
      refine gh_getR (k := 32) (t := 0) dc_X7_nerves_79 fl_RX7_7 (by decide) (by decide) rfl rfl ?_
      refine gh_sipush (v := (nI 1917)) dc_X7_nerves_82 gs_1917 ?_
      refine gh_iload_n dc_X7_nerves_85 rfl ?_
      refine gh_callSi (mi' := mi_X7_carAt) (as := [vI (nI 1917), vI x1]) (S := [vR 33 0]) dc_X7_nerves_86 ml_RX7_112 ok_X7_carAt rfl rfl (by decide) (Nat.le_of_ble_eq_true rfl) (wk_X7_carAt _ _ _ _ hw) (fun r24 M25 hw => ?_)
      refine gh_iconst (v := (nI 1)) dc_X7_nerves_89 gc_1 ?_
      refine gh_iadd dc_X7_nerves_90 ?_
      refine gh_iload dc_X7_nerves_91 rfl ?_
      obtain ⟨h26, hw⟩ := hw
      refine gh_iast (k := 33) (t := 0) dc_X7_nerves_93 rfl (by decide) (by decide) h26 ?_
      obtain ⟨M27, eM27⟩ : ∃ z, z = (gh_st M25 33 0 (r24 + (nI 1)).toNatClampNeg x9) := ⟨_, rfl⟩
      rw [← eM27]
      replace hw := hw _ eM27
      refine gh_aload_n dc_X7_nerves_94 rfl ?_
      refine gh_iload_n dc_X7_nerves_95 rfl ?_
      refine gh_iload_n dc_X7_nerves_96 rfl ?_
      refine gh_iload dc_X7_nerves_97 rfl ?_
      refine gh_iload dc_X7_nerves_99 rfl ?_
      refine gh_callVi (mi' := mi_X7_isTold) (as := [vI x1, vI x3, vI x4, vI x5]) (S := []) (k := 32) (t := 0) dc_X7_nerves_101 ml_RX7_238 ok_X7_isTold rfl rfl (by decide) (Nat.le_of_ble_eq_true rfl) (by decide) (by decide) rfl rfl (wk_X7_isTold _ _ _ _ _ _ hw) (fun r28 M29 hw => ?_)
      refine gh_if_eq (tgt := 114) dc_X7_nerves_104 rfl (fun c30 => ?_) (fun c30 => ?_)
      · replace hw := hw.1 c30
        obtain ⟨y9_31, ey9_31⟩ : ∃ z, z = (x9 + (-1 : Int32)) := ⟨_, rfl⟩
        replace hw := hw _ ey9_31
        refine gh_iinc (v := y9_31) (L' := [some (vR 32 0), some (vI x1), some (vI x2), some (vI x3), some (vI x4), some (vI x5), none, some (vI x7), some (vI x8), some (vI y9_31)]) dc_X7_nerves_114 rfl ((congrArg (fun z => x9 + z) gc_m1).trans ey9_31.symm) (by decide) rfl rfl ?_
        refine gh_goto (tgt := 68) dc_X7_nerves_117 rfl ?_
        refine gh_drop (pc' := 0) [some (vR 32 0), some (vI x1), some (vI x2), some (vI x3), some (vI x4), some (vI x5), none, some (vI x7), some (vI x8), some (vI y9_31)] ⟨rfl, rfl, rfl, rfl, rfl, rfl, rfl, rfl, rfl, trivial⟩ ?_
        exact ih _ _ _ _ _ _ _ _ _ hw
      · replace hw := hw.2 c30
        obtain ⟨y7_32, ey7_32⟩ : ∃ z, z = (x7 + (nI 1)) := ⟨_, rfl⟩
        replace hw := hw _ ey7_32
        refine gh_iinc (v := y7_32) (L' := [some (vR 32 0), some (vI x1), some (vI x2), some (vI x3), some (vI x4), some (vI x5), none, some (vI y7_32), some (vI x8), some (vI x9)]) dc_X7_nerves_107 rfl ((congrArg (fun z => x7 + z) gc_1).trans ey7_32.symm) (by decide) rfl rfl ?_
        refine gh_iload dc_X7_nerves_110 rfl ?_
        refine gh_istore (L' := [some (vR 32 0), some (vI x1), some (vI x2), some (vI x3), some (vI x4), some (vI x5), none, some (vI y7_32), some (vI x9), some (vI x9)]) dc_X7_nerves_112 (by decide) rfl rfl ?_
        obtain ⟨y9_33, ey9_33⟩ : ∃ z, z = (x9 + (-1 : Int32)) := ⟨_, rfl⟩
        replace hw := hw _ ey9_33
        refine gh_iinc (v := y9_33) (L' := [some (vR 32 0), some (vI x1), some (vI x2), some (vI x3), some (vI x4), some (vI x5), none, some (vI y7_32), some (vI x9), some (vI y9_33)]) dc_X7_nerves_114 rfl ((congrArg (fun z => x9 + z) gc_m1).trans ey9_33.symm) (by decide) rfl rfl ?_
        refine gh_goto (tgt := 68) dc_X7_nerves_117 rfl ?_
        refine gh_drop (pc' := 0) [some (vR 32 0), some (vI x1), some (vI x2), some (vI x3), some (vI x4), some (vI x5), none, some (vI y7_32), some (vI x9), some (vI y9_33)] ⟨rfl, rfl, rfl, rfl, rfl, rfl, rfl, rfl, rfl, trivial⟩ ?_
        exact ih _ _ _ _ _ _ _ _ _ hw
theorem wk_X7_nerves   (Q : Int32 → gh_M → Prop) (a0 : Int32) (a1 : Int32) (a2 : Int32) (a3 : Int32) (a4 : Int32) (M : gh_M) (hw : wp_X7_nerves  a0 a1 a2 a3 a4 M Q) : gh_Calls 8 mi_X7_nerves [vR 32 0, vI a0, vI a1, vI a2, vI a3, vI a4] M (gh_Qi Q) := by
  refine gh_of (by decide) rfl 4 rfl (L0 := [some (vR 32 0), some (vI a0), some (vI a1), some (vI a2), some (vI a3), some (vI a4), none, none, none, none]) rfl (fun wd x hE => ?_)
  unfold wp_X7_nerves at hw
  refine gh_aload_n dc_X7_nerves_0 rfl ?_
  refine gh_iload_n dc_X7_nerves_1 rfl ?_
  refine gh_callVi (mi' := mi_X7_isCar) (as := [vI a0]) (S := []) (k := 32) (t := 0) dc_X7_nerves_2 ml_RX7_180 ok_X7_isCar rfl rfl (by decide) (Nat.le_of_ble_eq_true rfl) (by decide) (by decide) rfl rfl (wk_X7_isCar _ _ _ hw) (fun r1 M2 hw => ?_)
  refine gh_if_eq (tgt := 35) dc_X7_nerves_5 rfl (fun c3 => ?_) (fun c3 => ?_)
  · replace hw := hw.1 c3
    refine gh_ldc (v := (-1000001 : Int32)) dc_X7_nerves_35 tw_898 ?_
    exact gh_iret dc_X7_nerves_37 hE rfl hw
  · replace hw := hw.2 c3
    refine gh_iload_n dc_X7_nerves_8 rfl ?_
    refine gh_iconst (v := (nI 0)) dc_X7_nerves_9 gc_0 ?_
    refine gh_iconst (v := (nI 1)) dc_X7_nerves_10 gc_1 ?_
    refine gh_callSi (mi' := mi_X7_in) (as := [vI a1, vI (nI 0), vI (nI 1)]) (S := []) dc_X7_nerves_11 ml_RX7_51 ok_X7_in rfl rfl (by decide) (Nat.le_of_ble_eq_true rfl) (wk_X7_in _ _ _ _ _ hw) (fun r4 M5 hw => ?_)
    refine gh_if_eq (tgt := 35) dc_X7_nerves_14 rfl (fun c6 => ?_) (fun c6 => ?_)
    · replace hw := hw.1 c6
      refine gh_ldc (v := (-1000001 : Int32)) dc_X7_nerves_35 tw_898 ?_
      exact gh_iret dc_X7_nerves_37 hE rfl hw
    · replace hw := hw.2 c6
      refine gh_iload_n dc_X7_nerves_17 rfl ?_
      refine gh_callSi (mi' := mi_X7_isRow) (as := [vI a2]) (S := []) dc_X7_nerves_18 ml_RX7_55 ok_X7_isRow rfl rfl (by decide) (Nat.le_of_ble_eq_true rfl) (wk_X7_isRow _ _ _ hw) (fun r7 M8 hw => ?_)
      refine gh_if_eq (tgt := 35) dc_X7_nerves_21 rfl (fun c9 => ?_) (fun c9 => ?_)
      · replace hw := hw.1 c9
        refine gh_ldc (v := (-1000001 : Int32)) dc_X7_nerves_35 tw_898 ?_
        exact gh_iret dc_X7_nerves_37 hE rfl hw
      · replace hw := hw.2 c9
        refine gh_iload dc_X7_nerves_24 rfl ?_
        refine gh_iconst (v := (nI 1)) dc_X7_nerves_26 gc_1 ?_
        refine gh_bipush (v := (nI 12)) dc_X7_nerves_27 gb_12 ?_
        refine gh_callSi (mi' := mi_X7_in) (as := [vI a4, vI (nI 1), vI (nI 12)]) (S := []) dc_X7_nerves_29 ml_RX7_51 ok_X7_in rfl rfl (by decide) (Nat.le_of_ble_eq_true rfl) (wk_X7_in _ _ _ _ _ hw) (fun r10 M11 hw => ?_)
        refine gh_if_ne (tgt := 38) dc_X7_nerves_32 rfl (fun c12 => ?_) (fun c12 => ?_)
        · replace hw := hw.1 c12
          refine gh_aload_n dc_X7_nerves_38 rfl ?_
          refine gh_iload_n dc_X7_nerves_39 rfl ?_
          refine gh_iload dc_X7_nerves_40 rfl ?_
          refine gh_iload dc_X7_nerves_42 rfl ?_
          refine gh_callVi (mi' := mi_X7_wrongRow) (as := [vI a2, vI a3, vI a4]) (S := []) (k := 32) (t := 0) dc_X7_nerves_44 ml_RX7_235 ok_X7_wrongRow rfl rfl (by decide) (Nat.le_of_ble_eq_true rfl) (by decide) (by decide) rfl rfl (wk_X7_wrongRow _ _ _ _ _ hw) (fun r13 M14 hw => ?_)
          refine gh_istore (L' := [some (vR 32 0), some (vI a0), some (vI a1), some (vI a2), some (vI a3), some (vI a4), some (vI r13), none, none, none]) dc_X7_nerves_47 (by decide) rfl rfl ?_
          refine gh_iload dc_X7_nerves_49 rfl ?_
          refine gh_if_ge (tgt := 57) dc_X7_nerves_51 rfl (fun c15 => ?_) (fun c15 => ?_)
          · replace hw := hw.1 c15
            refine gh_iconst (v := (nI 0)) dc_X7_nerves_57 gc_0 ?_
            refine gh_istore (L' := [some (vR 32 0), some (vI a0), some (vI a1), some (vI a2), some (vI a3), some (vI a4), some (vI r13), some (vI (nI 0)), none, none]) dc_X7_nerves_58 (by decide) rfl rfl ?_
            refine gh_ldc (v := (-1000000 : Int32)) dc_X7_nerves_60 tw_1016 ?_
            refine gh_istore (L' := [some (vR 32 0), some (vI a0), some (vI a1), some (vI a2), some (vI a3), some (vI a4), some (vI r13), some (vI (nI 0)), some (vI (-1000000 : Int32)), none]) dc_X7_nerves_62 (by decide) rfl rfl ?_
            refine gh_bipush (v := (nI 60)) dc_X7_nerves_64 gb_60 ?_
            refine gh_istore (L' := [some (vR 32 0), some (vI a0), some (vI a1), some (vI a2), some (vI a3), some (vI a4), some (vI r13), some (vI (nI 0)), some (vI (-1000000 : Int32)), some (vI (nI 60))]) dc_X7_nerves_66 (by decide) rfl rfl ?_
            refine gh_drop (pc' := 0) [some (vR 32 0), some (vI a0), some (vI a1), some (vI a2), some (vI a3), some (vI a4), none, some (vI (nI 0)), some (vI (-1000000 : Int32)), some (vI (nI 60))] ⟨rfl, rfl, rfl, rfl, rfl, rfl, rfl, rfl, rfl, trivial⟩ ?_
            obtain ⟨k, hw⟩ := hw
            exact lk_X7_nerves_68  hE  k _ _ _ _ _ _ _ _ _ hw
          · replace hw := hw.2 c15
            refine gh_iload dc_X7_nerves_54 rfl ?_
            exact gh_iret dc_X7_nerves_56 hE rfl hw
        · replace hw := hw.2 c12
          refine gh_ldc (v := (-1000001 : Int32)) dc_X7_nerves_35 tw_898 ?_
          exact gh_iret dc_X7_nerves_37 hE rfl hw
theorem lk_X7_fails_231 {wd : gh_Wd} {x : gh_X} {Q : Int64 → gh_M → Prop}   (hE : gh_E wd (gh_Ql Q) x)   : ∀ (n : Nat) (x4 : Int32) (x6 : Int64) (x8 : Int64) (x10 : Int64) (x12 : Int64) (M : gh_M), wl_X7_fails_231 Q n x4 x6 x8 x10 x12 M → gh_J mi_X7_fails 8 wd x M 231 [none, none, none, none, some (vI x4), none, some (vL x6), none, some (vL x8), none, some (vL x10), none, some (vL x12), none, none, none] [] := by
  intro n
  induction n with
  | zero => intro x4 x6 x8 x10 x12 M hw; exact hw.elim
  | succ n ih =>
    intro x4 x6 x8 x10 x12 M hw
    unfold wl_X7_fails_231 at hw
    refine gh_lload dc_X7_fails_231 rfl ?_
    refine gh_lconst (v := lN 0) dc_X7_fails_233 gl_0 ?_
    refine gh_lcmp dc_X7_fails_234 ?_
    refine gh_if_eq (tgt := 256) dc_X7_fails_235 rfl (fun c22 => ?_) (fun c22 => ?_)
    · replace hw := hw.1 c22
      refine gh_iload dc_X7_fails_256 rfl ?_
      refine gh_if_ne (tgt := 269) dc_X7_fails_258 rfl (fun c23 => ?_) (fun c23 => ?_)
      · replace hw := hw.1 c23
        refine gh_lload dc_X7_fails_269 rfl ?_
        refine gh_lload dc_X7_fails_271 rfl ?_
        obtain ⟨h24, hw⟩ := hw
        refine gh_ldiv dc_X7_fails_273 h24 ?_
        exact gh_lret dc_X7_fails_274 hE rfl hw
      · replace hw := hw.2 c23
        refine gh_lload dc_X7_fails_261 rfl ?_
        refine gh_lload dc_X7_fails_263 rfl ?_
        obtain ⟨h25, hw⟩ := hw
        refine gh_ldiv dc_X7_fails_265 h25 ?_
        refine gh_goto (tgt := 274) dc_X7_fails_266 rfl ?_
        exact gh_lret dc_X7_fails_274 hE rfl hw
    · replace hw := hw.2 c22
      refine gh_lload dc_X7_fails_238 rfl ?_
      refine gh_lload dc_X7_fails_240 rfl ?_
      obtain ⟨h26, hw⟩ := hw
      refine gh_lrem dc_X7_fails_242 h26 ?_
      obtain ⟨y14_27, ey14_27⟩ : ∃ z, z = (x10 - x10 / x12 * x12) := ⟨_, rfl⟩
      rw [← ey14_27]
      replace hw := hw _ ey14_27
      refine gh_lstore (L' := [none, none, none, none, some (vI x4), none, some (vL x6), none, some (vL x8), none, some (vL x10), none, some (vL x12), none, some (vL y14_27), none]) dc_X7_fails_243 (by decide) rfl rfl ?_
      refine gh_lload dc_X7_fails_245 rfl ?_
      refine gh_lstore (L' := [none, none, none, none, some (vI x4), none, some (vL x6), none, some (vL x8), none, some (vL x12), none, some (vL x12), none, some (vL y14_27), none]) dc_X7_fails_247 (by decide) rfl rfl ?_
      refine gh_lload dc_X7_fails_249 rfl ?_
      refine gh_lstore (L' := [none, none, none, none, some (vI x4), none, some (vL x6), none, some (vL x8), none, some (vL x12), none, some (vL y14_27), none, some (vL y14_27), none]) dc_X7_fails_251 (by decide) rfl rfl ?_
      refine gh_goto (tgt := 231) dc_X7_fails_253 rfl ?_
      refine gh_drop (pc' := 0) [none, none, none, none, some (vI x4), none, some (vL x6), none, some (vL x8), none, some (vL x12), none, some (vL y14_27), none, none, none] ⟨rfl, rfl, rfl, rfl, rfl, trivial⟩ ?_
      exact ih _ _ _ _ _ _ hw
theorem lk_X7_fails_125 {wd : gh_Wd} {x : gh_X} {Q : Int64 → gh_M → Prop}   (hE : gh_E wd (gh_Ql Q) x) {K100 : Int32 → Int32 → Int32 → Int32 → Int32 → Int64 → Int64 → Int32 → gh_M → Prop} (hK100 : ∀ (v1 : Int32) (v2 : Int32) (v3 : Int32) (v4 : Int32) (v5 : Int32) (v6 : Int64) (v8 : Int64) (v10 : Int32) (m : gh_M), K100 v1 v2 v3 v4 v5 v6 v8 v10 m → gh_J mi_X7_fails 8 wd x m 100 [some (vR 32 0), some (vI v1), some (vI v2), some (vI v3), some (vI v4), some (vI v5), some (vL v6), none, some (vL v8), none, some (vI v10), none, none, none, none, none] []) : ∀ (n : Nat) (x1 : Int32) (x2 : Int32) (x3 : Int32) (x4 : Int32) (x5 : Int32) (x6 : Int64) (x8 : Int64) (x10 : Int32) (x11 : Int64) (x13 : Int32) (M : gh_M), wl_X7_fails_125 Q K100 n x1 x2 x3 x4 x5 x6 x8 x10 x11 x13 M → gh_J mi_X7_fails 8 wd x M 125 [some (vR 32 0), some (vI x1), some (vI x2), some (vI x3), some (vI x4), some (vI x5), some (vL x6), none, some (vL x8), none, some (vI x10), some (vL x11), none, some (vI x13), none, none] [] := by
  intro n
  induction n with
  | zero => intro x1 x2 x3 x4 x5 x6 x8 x10 x11 x13 M hw; exact hw.elim
  | succ n ih =>
    intro x1 x2 x3 x4 x5 x6 x8 x10 x11 x13 M hw
    unfold wl_X7_fails_125 at hw
    refine gh_iload dc_X7_fails_125 rfl ?_
    refine gh_aload_n dc_X7_fails_127 rfl ?_
    refine gh_getR (k := 32) (t := 0) dc_X7_fails_128 fl_RX7_7 (by decide) (by decide) rfl rfl ?_
    refine gh_iconst (v := (nI 1)) dc_X7_fails_131 gc_1 ?_
    obtain ⟨h31, hw⟩ := hw
    refine gh_iald (k := 33) (t := 0) dc_X7_fails_132 rfl (by decide) (by decide) h31 ?_
    refine gh_icmp_ge (tgt := 182) dc_X7_fails_133 rfl (fun c32 => ?_) (fun c32 => ?_)
    · replace hw := hw.1 c32
      refine gh_aload_n dc_X7_fails_182 rfl ?_
      refine gh_callVv (mi' := mi_X7_beginTry) (as := []) (S := []) (k := 32) (t := 0) dc_X7_fails_183 ml_RX7_192 ok_X7_beginTry rfl rfl (by decide) (Nat.le_of_ble_eq_true rfl) (by decide) (by decide) rfl rfl (wk_X7_beginTry _ _ hw) (fun M34 hw => ?_)
      refine gh_aload_n dc_X7_fails_186 rfl ?_
      refine gh_iload dc_X7_fails_187 rfl ?_
      refine gh_callVv (mi' := mi_X7_switchAll) (as := [vI x10]) (S := []) (k := 32) (t := 0) dc_X7_fails_189 ml_RX7_222 ok_X7_switchAll rfl rfl (by decide) (Nat.le_of_ble_eq_true rfl) (by decide) (by decide) rfl rfl (wk_X7_switchAll _ _ _ hw) (fun M36 hw => ?_)
      refine gh_aload_n dc_X7_fails_192 rfl ?_
      refine gh_iload_n dc_X7_fails_193 rfl ?_
      refine gh_callVv (mi' := mi_X7_goOn) (as := [vI x2]) (S := []) (k := 32) (t := 0) dc_X7_fails_194 ml_RX7_195 ok_X7_goOn rfl rfl (by decide) (Nat.le_of_ble_eq_true rfl) (by decide) (by decide) rfl rfl (wk_X7_goOn _ _ _ hw) (fun M38 hw => ?_)
      refine gh_lload dc_X7_fails_197 rfl ?_
      refine gh_aload_n dc_X7_fails_199 rfl ?_
      refine gh_getR (k := 32) (t := 0) dc_X7_fails_200 fl_RX7_19 (by decide) (by decide) rfl rfl ?_
      refine gh_iload_n dc_X7_fails_203 rfl ?_
      obtain ⟨h39, hw⟩ := hw
      refine gh_iald (k := 36) (t := 0) dc_X7_fails_204 rfl (by decide) (by decide) h39 ?_
      refine gh_if_le (tgt := 213) dc_X7_fails_205 rfl (fun c40 => ?_) (fun c40 => ?_)
      · replace hw := hw.1 c40
        refine gh_lconst (v := lN 0) dc_X7_fails_213 gl_0 ?_
        refine gh_ladd dc_X7_fails_214 ?_
        obtain ⟨y6_41, ey6_41⟩ : ∃ z, z = (x6 + (lN 0)) := ⟨_, rfl⟩
        rw [← ey6_41]
        replace hw := hw _ ey6_41
        refine gh_lstore (L' := [some (vR 32 0), some (vI x1), some (vI x2), some (vI x3), some (vI x4), some (vI x5), some (vL y6_41), none, some (vL x8), none, some (vI x10), some (vL x11), none, some (vI x13), none, none]) dc_X7_fails_215 (by decide) rfl rfl ?_
        obtain ⟨y10_42, ey10_42⟩ : ∃ z, z = (x10 + (nI 1)) := ⟨_, rfl⟩
        replace hw := hw _ ey10_42
        refine gh_iinc (v := y10_42) (L' := [some (vR 32 0), some (vI x1), some (vI x2), some (vI x3), some (vI x4), some (vI x5), some (vL y6_41), none, some (vL x8), none, some (vI y10_42), some (vL x11), none, some (vI x13), none, none]) dc_X7_fails_217 rfl ((congrArg (fun z => x10 + z) gc_1).trans ey10_42.symm) (by decide) rfl rfl ?_
        refine gh_goto (tgt := 100) dc_X7_fails_220 rfl ?_
        refine gh_drop (pc' := 0) [some (vR 32 0), some (vI x1), some (vI x2), some (vI x3), some (vI x4), some (vI x5), some (vL y6_41), none, some (vL x8), none, some (vI y10_42), none, none, none, none, none] ⟨rfl, rfl, rfl, rfl, rfl, rfl, rfl, rfl, rfl, trivial⟩ ?_
        exact hK100 _ _ _ _ _ _ _ _ _ hw
      · replace hw := hw.2 c40
        refine gh_lload dc_X7_fails_208 rfl ?_
        refine gh_goto (tgt := 214) dc_X7_fails_210 rfl ?_
        refine gh_ladd dc_X7_fails_214 ?_
        obtain ⟨y6_43, ey6_43⟩ : ∃ z, z = (x6 + x11) := ⟨_, rfl⟩
        rw [← ey6_43]
        replace hw := hw _ ey6_43
        refine gh_lstore (L' := [some (vR 32 0), some (vI x1), some (vI x2), some (vI x3), some (vI x4), some (vI x5), some (vL y6_43), none, some (vL x8), none, some (vI x10), some (vL x11), none, some (vI x13), none, none]) dc_X7_fails_215 (by decide) rfl rfl ?_
        obtain ⟨y10_44, ey10_44⟩ : ∃ z, z = (x10 + (nI 1)) := ⟨_, rfl⟩
        replace hw := hw _ ey10_44
        refine gh_iinc (v := y10_44) (L' := [some (vR 32 0), some (vI x1), some (vI x2), some (vI x3), some (vI x4), some (vI x5), some (vL y6_43), none, some (vL x8), none, some (vI y10_44), some (vL x11), none, some (vI x13), none, none]) dc_X7_fails_217 rfl ((congrArg (fun z => x10 + z) gc_1).trans ey10_44.symm) (by decide) rfl rfl ?_
        refine gh_goto (tgt := 100) dc_X7_fails_220 rfl ?_
        refine gh_drop (pc' := 0) [some (vR 32 0), some (vI x1), some (vI x2), some (vI x3), some (vI x4), some (vI x5), some (vL y6_43), none, some (vL x8), none, some (vI y10_44), none, none, none, none, none] ⟨rfl, rfl, rfl, rfl, rfl, rfl, rfl, rfl, rfl, trivial⟩ ?_
        exact hK100 _ _ _ _ _ _ _ _ _ hw
    · replace hw := hw.2 c32
      refine gh_lload dc_X7_fails_136 rfl ?_
      refine gh_iload dc_X7_fails_138 rfl ?_
      refine gh_iload dc_X7_fails_140 rfl ?_
      refine gh_callSi (mi' := mi_X7_has) (as := [vI x5, vI x13]) (S := [vL x11]) dc_X7_fails_142 ml_RX7_216 ok_X7_has rfl rfl (by decide) (Nat.le_of_ble_eq_true rfl) (wk_X7_has _ _ _ _ hw) (fun r45 M46 hw => ?_)
      refine gh_if_ne (tgt := 152) dc_X7_fails_145 rfl (fun c47 => ?_) (fun c47 => ?_)
      · replace hw := hw.1 c47
        refine gh_iload dc_X7_fails_152 rfl ?_
        refine gh_iload dc_X7_fails_154 rfl ?_
        refine gh_callSi (mi' := mi_X7_has) (as := [vI x10, vI x13]) (S := [vL x11]) dc_X7_fails_156 ml_RX7_216 ok_X7_has rfl rfl (by decide) (Nat.le_of_ble_eq_true rfl) (wk_X7_has _ _ _ _ hw) (fun r48 M49 hw => ?_)
        refine gh_if_eq (tgt := 171) dc_X7_fails_159 rfl (fun c50 => ?_) (fun c50 => ?_)
        · replace hw := hw.1 c50
          refine gh_iload_n dc_X7_fails_171 rfl ?_
          refine gh_i2l dc_X7_fails_172 ?_
          refine gh_lmul dc_X7_fails_173 ?_
          obtain ⟨y11_51, ey11_51⟩ : ∃ z, z = (x11 * x3.toInt64) := ⟨_, rfl⟩
          rw [← ey11_51]
          replace hw := hw _ ey11_51
          refine gh_lstore (L' := [some (vR 32 0), some (vI x1), some (vI x2), some (vI x3), some (vI x4), some (vI x5), some (vL x6), none, some (vL x8), none, some (vI x10), some (vL y11_51), none, some (vI x13), none, none]) dc_X7_fails_174 (by decide) rfl rfl ?_
          obtain ⟨y13_52, ey13_52⟩ : ∃ z, z = (x13 + (nI 1)) := ⟨_, rfl⟩
          replace hw := hw _ ey13_52
          refine gh_iinc (v := y13_52) (L' := [some (vR 32 0), some (vI x1), some (vI x2), some (vI x3), some (vI x4), some (vI x5), some (vL x6), none, some (vL x8), none, some (vI x10), some (vL y11_51), none, some (vI y13_52), none, none]) dc_X7_fails_176 rfl ((congrArg (fun z => x13 + z) gc_1).trans ey13_52.symm) (by decide) rfl rfl ?_
          refine gh_goto (tgt := 125) dc_X7_fails_179 rfl ?_
          refine gh_drop (pc' := 0) [some (vR 32 0), some (vI x1), some (vI x2), some (vI x3), some (vI x4), some (vI x5), some (vL x6), none, some (vL x8), none, some (vI x10), some (vL y11_51), none, some (vI y13_52), none, none] ⟨rfl, rfl, rfl, rfl, rfl, rfl, rfl, rfl, rfl, rfl, rfl, trivial⟩ ?_
          exact ih _ _ _ _ _ _ _ _ _ _ _ hw
        · replace hw := hw.2 c50
          refine gh_ldc2 (v := (10 : Int64)) dc_X7_fails_162 tw_1216 ?_
          refine gh_iload_n dc_X7_fails_165 rfl ?_
          refine gh_i2l dc_X7_fails_166 ?_
          refine gh_lsub dc_X7_fails_167 ?_
          refine gh_goto (tgt := 173) dc_X7_fails_168 rfl ?_
          refine gh_lmul dc_X7_fails_173 ?_
          obtain ⟨y11_53, ey11_53⟩ : ∃ z, z = (x11 * ((10 : Int64) - x3.toInt64)) := ⟨_, rfl⟩
          rw [← ey11_53]
          replace hw := hw _ ey11_53
          refine gh_lstore (L' := [some (vR 32 0), some (vI x1), some (vI x2), some (vI x3), some (vI x4), some (vI x5), some (vL x6), none, some (vL x8), none, some (vI x10), some (vL y11_53), none, some (vI x13), none, none]) dc_X7_fails_174 (by decide) rfl rfl ?_
          obtain ⟨y13_54, ey13_54⟩ : ∃ z, z = (x13 + (nI 1)) := ⟨_, rfl⟩
          replace hw := hw _ ey13_54
          refine gh_iinc (v := y13_54) (L' := [some (vR 32 0), some (vI x1), some (vI x2), some (vI x3), some (vI x4), some (vI x5), some (vL x6), none, some (vL x8), none, some (vI x10), some (vL y11_53), none, some (vI y13_54), none, none]) dc_X7_fails_176 rfl ((congrArg (fun z => x13 + z) gc_1).trans ey13_54.symm) (by decide) rfl rfl ?_
          refine gh_goto (tgt := 125) dc_X7_fails_179 rfl ?_
          refine gh_drop (pc' := 0) [some (vR 32 0), some (vI x1), some (vI x2), some (vI x3), some (vI x4), some (vI x5), some (vL x6), none, some (vL x8), none, some (vI x10), some (vL y11_53), none, some (vI y13_54), none, none] ⟨rfl, rfl, rfl, rfl, rfl, rfl, rfl, rfl, rfl, rfl, rfl, trivial⟩ ?_
          exact ih _ _ _ _ _ _ _ _ _ _ _ hw
      · replace hw := hw.2 c47
        refine gh_lconst (v := lN 1) dc_X7_fails_148 gl_1 ?_
        refine gh_goto (tgt := 173) dc_X7_fails_149 rfl ?_
        refine gh_lmul dc_X7_fails_173 ?_
        obtain ⟨y11_55, ey11_55⟩ : ∃ z, z = (x11 * (lN 1)) := ⟨_, rfl⟩
        rw [← ey11_55]
        replace hw := hw _ ey11_55
        refine gh_lstore (L' := [some (vR 32 0), some (vI x1), some (vI x2), some (vI x3), some (vI x4), some (vI x5), some (vL x6), none, some (vL x8), none, some (vI x10), some (vL y11_55), none, some (vI x13), none, none]) dc_X7_fails_174 (by decide) rfl rfl ?_
        obtain ⟨y13_56, ey13_56⟩ : ∃ z, z = (x13 + (nI 1)) := ⟨_, rfl⟩
        replace hw := hw _ ey13_56
        refine gh_iinc (v := y13_56) (L' := [some (vR 32 0), some (vI x1), some (vI x2), some (vI x3), some (vI x4), some (vI x5), some (vL x6), none, some (vL x8), none, some (vI x10), some (vL y11_55), none, some (vI y13_56), none, none]) dc_X7_fails_176 rfl ((congrArg (fun z => x13 + z) gc_1).trans ey13_56.symm) (by decide) rfl rfl ?_
        refine gh_goto (tgt := 125) dc_X7_fails_179 rfl ?_
        refine gh_drop (pc' := 0) [some (vR 32 0), some (vI x1), some (vI x2), some (vI x3), some (vI x4), some (vI x5), some (vL x6), none, some (vL x8), none, some (vI x10), some (vL y11_55), none, some (vI y13_56), none, none] ⟨rfl, rfl, rfl, rfl, rfl, rfl, rfl, rfl, rfl, rfl, rfl, trivial⟩ ?_
        exact ih _ _ _ _ _ _ _ _ _ _ _ hw
theorem lk_X7_fails_100 {wd : gh_Wd} {x : gh_X} {Q : Int64 → gh_M → Prop}   (hE : gh_E wd (gh_Ql Q) x)   : ∀ (n : Nat) (x1 : Int32) (x2 : Int32) (x3 : Int32) (x4 : Int32) (x5 : Int32) (x6 : Int64) (x8 : Int64) (x10 : Int32) (M : gh_M), wl_X7_fails_100 Q n x1 x2 x3 x4 x5 x6 x8 x10 M → gh_J mi_X7_fails 8 wd x M 100 [some (vR 32 0), some (vI x1), some (vI x2), some (vI x3), some (vI x4), some (vI x5), some (vL x6), none, some (vL x8), none, some (vI x10), none, none, none, none, none] [] := by
  intro n
  induction n with
  | zero => intro x1 x2 x3 x4 x5 x6 x8 x10 M hw; exact hw.elim
  | succ n ih =>
    intro x1 x2 x3 x4 x5 x6 x8 x10 M hw
    unfold wl_X7_fails_100 at hw
    refine gh_iload dc_X7_fails_100 rfl ?_
    refine gh_aload_n dc_X7_fails_102 rfl ?_
    refine gh_callVi (mi' := mi_X7_allTricks) (as := []) (S := [vI x10]) (k := 32) (t := 0) dc_X7_fails_103 ml_RX7_219 ok_X7_allTricks rfl rfl (by decide) (Nat.le_of_ble_eq_true rfl) (by decide) (by decide) rfl rfl (wk_X7_allTricks _ _ hw) (fun r19 M20 hw => ?_)
    refine gh_icmp_gt (tgt := 223) dc_X7_fails_106 rfl (fun c21 => ?_) (fun c21 => ?_)
    · replace hw := hw.1 c21
      refine gh_lload dc_X7_fails_223 rfl ?_
      refine gh_lstore (L' := [some (vR 32 0), some (vI x1), some (vI x2), some (vI x3), some (vI x4), some (vI x5), some (vL x6), none, some (vL x8), none, some (vL x6), none, none, none, none, none]) dc_X7_fails_225 (by decide) rfl rfl ?_
      refine gh_lload dc_X7_fails_227 rfl ?_
      refine gh_lstore (L' := [some (vR 32 0), some (vI x1), some (vI x2), some (vI x3), some (vI x4), some (vI x5), some (vL x6), none, some (vL x8), none, some (vL x6), none, some (vL x8), none, none, none]) dc_X7_fails_229 (by decide) rfl rfl ?_
      refine gh_drop (pc' := 0) [none, none, none, none, some (vI x4), none, some (vL x6), none, some (vL x8), none, some (vL x6), none, some (vL x8), none, none, none] ⟨rfl, rfl, rfl, rfl, rfl, trivial⟩ ?_
      obtain ⟨k, hw⟩ := hw
      exact lk_X7_fails_231  hE  k _ _ _ _ _ _ hw
    · replace hw := hw.2 c21
      refine gh_iload dc_X7_fails_109 rfl ?_
      refine gh_iload dc_X7_fails_111 rfl ?_
      refine gh_iconst (v := (-1 : Int32)) dc_X7_fails_113 gc_m1 ?_
      refine gh_ixor dc_X7_fails_114 ?_
      refine gh_iand dc_X7_fails_115 ?_
      refine gh_if_ne (tgt := 217) dc_X7_fails_116 rfl (fun c28 => ?_) (fun c28 => ?_)
      · replace hw := hw.1 c28
        obtain ⟨y10_29, ey10_29⟩ : ∃ z, z = (x10 + (nI 1)) := ⟨_, rfl⟩
        replace hw := hw _ ey10_29
        refine gh_iinc (v := y10_29) (L' := [some (vR 32 0), some (vI x1), some (vI x2), some (vI x3), some (vI x4), some (vI x5), some (vL x6), none, some (vL x8), none, some (vI y10_29), none, none, none, none, none]) dc_X7_fails_217 rfl ((congrArg (fun z => x10 + z) gc_1).trans ey10_29.symm) (by decide) rfl rfl ?_
        refine gh_goto (tgt := 100) dc_X7_fails_220 rfl ?_
        refine gh_drop (pc' := 0) [some (vR 32 0), some (vI x1), some (vI x2), some (vI x3), some (vI x4), some (vI x5), some (vL x6), none, some (vL x8), none, some (vI y10_29), none, none, none, none, none] ⟨rfl, rfl, rfl, rfl, rfl, rfl, rfl, rfl, rfl, trivial⟩ ?_
        exact ih _ _ _ _ _ _ _ _ _ hw
      · replace hw := hw.2 c28
        refine gh_lconst (v := lN 1) dc_X7_fails_119 gl_1 ?_
        obtain ⟨y11_30, ey11_30⟩ : ∃ z, z = (lN 1) := ⟨_, rfl⟩
        rw [← ey11_30]
        replace hw := hw _ ey11_30
        refine gh_lstore (L' := [some (vR 32 0), some (vI x1), some (vI x2), some (vI x3), some (vI x4), some (vI x5), some (vL x6), none, some (vL x8), none, some (vI x10), some (vL y11_30), none, none, none, none]) dc_X7_fails_120 (by decide) rfl rfl ?_
        refine gh_iconst (v := (nI 0)) dc_X7_fails_122 gc_0 ?_
        refine gh_istore (L' := [some (vR 32 0), some (vI x1), some (vI x2), some (vI x3), some (vI x4), some (vI x5), some (vL x6), none, some (vL x8), none, some (vI x10), some (vL y11_30), none, some (vI (nI 0)), none, none]) dc_X7_fails_123 (by decide) rfl rfl ?_
        refine gh_drop (pc' := 0) [some (vR 32 0), some (vI x1), some (vI x2), some (vI x3), some (vI x4), some (vI x5), some (vL x6), none, some (vL x8), none, some (vI x10), some (vL y11_30), none, some (vI (nI 0)), none, none] ⟨rfl, rfl, rfl, rfl, rfl, rfl, rfl, rfl, rfl, rfl, rfl, trivial⟩ ?_
        obtain ⟨k, hw⟩ := hw
        exact lk_X7_fails_125  hE ih k _ _ _ _ _ _ _ _ _ _ _ hw
theorem lk_X7_fails_58 {wd : gh_Wd} {x : gh_X} {Q : Int64 → gh_M → Prop}   (hE : gh_E wd (gh_Ql Q) x)   : ∀ (n : Nat) (x1 : Int32) (x2 : Int32) (x3 : Int32) (x4 : Int32) (x5 : Int32) (x6 : Int64) (x8 : Int64) (x10 : Int32) (M : gh_M), wl_X7_fails_58 Q n x1 x2 x3 x4 x5 x6 x8 x10 M → gh_J mi_X7_fails 8 wd x M 58 [some (vR 32 0), some (vI x1), some (vI x2), some (vI x3), some (vI x4), some (vI x5), some (vL x6), none, some (vL x8), none, some (vI x10), none, none, none, none, none] [] := by
  intro n
  induction n with
  | zero => intro x1 x2 x3 x4 x5 x6 x8 x10 M hw; exact hw.elim
  | succ n ih =>
    intro x1 x2 x3 x4 x5 x6 x8 x10 M hw
    unfold wl_X7_fails_58 at hw
    refine gh_iload dc_X7_fails_58 rfl ?_
    refine gh_aload_n dc_X7_fails_60 rfl ?_
    refine gh_getR (k := 32) (t := 0) dc_X7_fails_61 fl_RX7_7 (by decide) (by decide) rfl rfl ?_
    refine gh_iconst (v := (nI 1)) dc_X7_fails_64 gc_1 ?_
    obtain ⟨h17, hw⟩ := hw
    refine gh_iald (k := 33) (t := 0) dc_X7_fails_65 rfl (by decide) (by decide) h17 ?_
    refine gh_icmp_ge (tgt := 97) dc_X7_fails_66 rfl (fun c18 => ?_) (fun c18 => ?_)
    · replace hw := hw.1 c18
      refine gh_iconst (v := (nI 0)) dc_X7_fails_97 gc_0 ?_
      refine gh_istore (L' := [some (vR 32 0), some (vI x1), some (vI x2), some (vI x3), some (vI x4), some (vI x5), some (vL x6), none, some (vL x8), none, some (vI (nI 0)), none, none, none, none, none]) dc_X7_fails_98 (by decide) rfl rfl ?_
      refine gh_drop (pc' := 0) [some (vR 32 0), some (vI x1), some (vI x2), some (vI x3), some (vI x4), some (vI x5), some (vL x6), none, some (vL x8), none, some (vI (nI 0)), none, none, none, none, none] ⟨rfl, rfl, rfl, rfl, rfl, rfl, rfl, rfl, rfl, trivial⟩ ?_
      obtain ⟨k, hw⟩ := hw
      exact lk_X7_fails_100  hE  k _ _ _ _ _ _ _ _ _ hw
    · replace hw := hw.2 c18
      refine gh_lload dc_X7_fails_69 rfl ?_
      refine gh_iload dc_X7_fails_71 rfl ?_
      refine gh_iload dc_X7_fails_73 rfl ?_
      refine gh_callSi (mi' := mi_X7_has) (as := [vI x5, vI x10]) (S := [vL x8]) dc_X7_fails_75 ml_RX7_216 ok_X7_has rfl rfl (by decide) (Nat.le_of_ble_eq_true rfl) (wk_X7_has _ _ _ _ hw) (fun r57 M58 hw => ?_)
      refine gh_if_eq (tgt := 87) dc_X7_fails_78 rfl (fun c59 => ?_) (fun c59 => ?_)
      · replace hw := hw.1 c59
        refine gh_lconst (v := lN 1) dc_X7_fails_87 gl_1 ?_
        refine gh_lmul dc_X7_fails_88 ?_
        obtain ⟨y8_60, ey8_60⟩ : ∃ z, z = (x8 * (lN 1)) := ⟨_, rfl⟩
        rw [← ey8_60]
        replace hw := hw _ ey8_60
        refine gh_lstore (L' := [some (vR 32 0), some (vI x1), some (vI x2), some (vI x3), some (vI x4), some (vI x5), some (vL x6), none, some (vL y8_60), none, some (vI x10), none, none, none, none, none]) dc_X7_fails_89 (by decide) rfl rfl ?_
        obtain ⟨y10_61, ey10_61⟩ : ∃ z, z = (x10 + (nI 1)) := ⟨_, rfl⟩
        replace hw := hw _ ey10_61
        refine gh_iinc (v := y10_61) (L' := [some (vR 32 0), some (vI x1), some (vI x2), some (vI x3), some (vI x4), some (vI x5), some (vL x6), none, some (vL y8_60), none, some (vI y10_61), none, none, none, none, none]) dc_X7_fails_91 rfl ((congrArg (fun z => x10 + z) gc_1).trans ey10_61.symm) (by decide) rfl rfl ?_
        refine gh_goto (tgt := 58) dc_X7_fails_94 rfl ?_
        refine gh_drop (pc' := 0) [some (vR 32 0), some (vI x1), some (vI x2), some (vI x3), some (vI x4), some (vI x5), some (vL x6), none, some (vL y8_60), none, some (vI y10_61), none, none, none, none, none] ⟨rfl, rfl, rfl, rfl, rfl, rfl, rfl, rfl, rfl, trivial⟩ ?_
        exact ih _ _ _ _ _ _ _ _ _ hw
      · replace hw := hw.2 c59
        refine gh_ldc2 (v := (10 : Int64)) dc_X7_fails_81 tw_1216 ?_
        refine gh_goto (tgt := 88) dc_X7_fails_84 rfl ?_
        refine gh_lmul dc_X7_fails_88 ?_
        obtain ⟨y8_62, ey8_62⟩ : ∃ z, z = (x8 * (10 : Int64)) := ⟨_, rfl⟩
        rw [← ey8_62]
        replace hw := hw _ ey8_62
        refine gh_lstore (L' := [some (vR 32 0), some (vI x1), some (vI x2), some (vI x3), some (vI x4), some (vI x5), some (vL x6), none, some (vL y8_62), none, some (vI x10), none, none, none, none, none]) dc_X7_fails_89 (by decide) rfl rfl ?_
        obtain ⟨y10_63, ey10_63⟩ : ∃ z, z = (x10 + (nI 1)) := ⟨_, rfl⟩
        replace hw := hw _ ey10_63
        refine gh_iinc (v := y10_63) (L' := [some (vR 32 0), some (vI x1), some (vI x2), some (vI x3), some (vI x4), some (vI x5), some (vL x6), none, some (vL y8_62), none, some (vI y10_63), none, none, none, none, none]) dc_X7_fails_91 rfl ((congrArg (fun z => x10 + z) gc_1).trans ey10_63.symm) (by decide) rfl rfl ?_
        refine gh_goto (tgt := 58) dc_X7_fails_94 rfl ?_
        refine gh_drop (pc' := 0) [some (vR 32 0), some (vI x1), some (vI x2), some (vI x3), some (vI x4), some (vI x5), some (vL x6), none, some (vL y8_62), none, some (vI y10_63), none, none, none, none, none] ⟨rfl, rfl, rfl, rfl, rfl, rfl, rfl, rfl, rfl, trivial⟩ ?_
        exact ih _ _ _ _ _ _ _ _ _ hw
theorem wk_X7_fails   (Q : Int64 → gh_M → Prop) (a0 : Int32) (a1 : Int32) (a2 : Int32) (a3 : Int32) (M : gh_M) (hw : wp_X7_fails  a0 a1 a2 a3 M Q) : gh_Calls 8 mi_X7_fails [vR 32 0, vI a0, vI a1, vI a2, vI a3] M (gh_Ql Q) := by
  refine gh_of (by decide) rfl 11 rfl (L0 := [some (vR 32 0), some (vI a0), some (vI a1), some (vI a2), some (vI a3), none, none, none, none, none, none, none, none, none, none, none]) rfl (fun wd x hE => ?_)
  unfold wp_X7_fails at hw
  refine gh_aload_n dc_X7_fails_0 rfl ?_
  refine gh_iload_n dc_X7_fails_1 rfl ?_
  refine gh_callVi (mi' := mi_X7_isCar) (as := [vI a0]) (S := []) (k := 32) (t := 0) dc_X7_fails_2 ml_RX7_180 ok_X7_isCar rfl rfl (by decide) (Nat.le_of_ble_eq_true rfl) (by decide) (by decide) rfl rfl (wk_X7_isCar _ _ _ hw) (fun r1 M2 hw => ?_)
  refine gh_if_eq (tgt := 38) dc_X7_fails_5 rfl (fun c3 => ?_) (fun c3 => ?_)
  · replace hw := hw.1 c3
    refine gh_ldc2 (v := (-1000001 : Int64)) dc_X7_fails_38 tw_1215 ?_
    exact gh_lret dc_X7_fails_41 hE rfl hw
  · replace hw := hw.2 c3
    refine gh_iload_n dc_X7_fails_8 rfl ?_
    refine gh_iconst (v := (nI 0)) dc_X7_fails_9 gc_0 ?_
    refine gh_bipush (v := (nI 60)) dc_X7_fails_10 gb_60 ?_
    refine gh_callSi (mi' := mi_X7_in) (as := [vI a1, vI (nI 0), vI (nI 60)]) (S := []) dc_X7_fails_12 ml_RX7_51 ok_X7_in rfl rfl (by decide) (Nat.le_of_ble_eq_true rfl) (wk_X7_in _ _ _ _ _ hw) (fun r4 M5 hw => ?_)
    refine gh_if_eq (tgt := 38) dc_X7_fails_15 rfl (fun c6 => ?_) (fun c6 => ?_)
    · replace hw := hw.1 c6
      refine gh_ldc2 (v := (-1000001 : Int64)) dc_X7_fails_38 tw_1215 ?_
      exact gh_lret dc_X7_fails_41 hE rfl hw
    · replace hw := hw.2 c6
      refine gh_iload_n dc_X7_fails_18 rfl ?_
      refine gh_iconst (v := (nI 0)) dc_X7_fails_19 gc_0 ?_
      refine gh_bipush (v := (nI 10)) dc_X7_fails_20 gb_10 ?_
      refine gh_callSi (mi' := mi_X7_in) (as := [vI a2, vI (nI 0), vI (nI 10)]) (S := []) dc_X7_fails_22 ml_RX7_51 ok_X7_in rfl rfl (by decide) (Nat.le_of_ble_eq_true rfl) (wk_X7_in _ _ _ _ _ hw) (fun r7 M8 hw => ?_)
      refine gh_if_eq (tgt := 38) dc_X7_fails_25 rfl (fun c9 => ?_) (fun c9 => ?_)
      · replace hw := hw.1 c9
        refine gh_ldc2 (v := (-1000001 : Int64)) dc_X7_fails_38 tw_1215 ?_
        exact gh_lret dc_X7_fails_41 hE rfl hw
      · replace hw := hw.2 c9
        refine gh_iload dc_X7_fails_28 rfl ?_
        refine gh_iconst (v := (nI 0)) dc_X7_fails_30 gc_0 ?_
        refine gh_iconst (v := (nI 1)) dc_X7_fails_31 gc_1 ?_
        refine gh_callSi (mi' := mi_X7_in) (as := [vI a3, vI (nI 0), vI (nI 1)]) (S := []) dc_X7_fails_32 ml_RX7_51 ok_X7_in rfl rfl (by decide) (Nat.le_of_ble_eq_true rfl) (wk_X7_in _ _ _ _ _ hw) (fun r10 M11 hw => ?_)
        refine gh_if_ne (tgt := 42) dc_X7_fails_35 rfl (fun c12 => ?_) (fun c12 => ?_)
        · replace hw := hw.1 c12
          refine gh_aload_n dc_X7_fails_42 rfl ?_
          refine gh_iconst (v := (nI 0)) dc_X7_fails_43 gc_0 ?_
          refine gh_callVi (mi' := mi_X7_onSet) (as := [vI (nI 0)]) (S := []) (k := 32) (t := 0) dc_X7_fails_44 ml_RX7_189 ok_X7_onSet rfl rfl (by decide) (Nat.le_of_ble_eq_true rfl) (by decide) (by decide) rfl rfl (wk_X7_onSet _ _ _ hw) (fun r13 M14 hw => ?_)
          refine gh_istore (L' := [some (vR 32 0), some (vI a0), some (vI a1), some (vI a2), some (vI a3), some (vI r13), none, none, none, none, none, none, none, none, none, none]) dc_X7_fails_47 (by decide) rfl rfl ?_
          refine gh_lconst (v := lN 0) dc_X7_fails_49 gl_0 ?_
          obtain ⟨y6_15, ey6_15⟩ : ∃ z, z = (lN 0) := ⟨_, rfl⟩
          rw [← ey6_15]
          replace hw := hw _ ey6_15
          refine gh_lstore (L' := [some (vR 32 0), some (vI a0), some (vI a1), some (vI a2), some (vI a3), some (vI r13), some (vL y6_15), none, none, none, none, none, none, none, none, none]) dc_X7_fails_50 (by decide) rfl rfl ?_
          refine gh_lconst (v := lN 1) dc_X7_fails_52 gl_1 ?_
          obtain ⟨y8_16, ey8_16⟩ : ∃ z, z = (lN 1) := ⟨_, rfl⟩
          rw [← ey8_16]
          replace hw := hw _ ey8_16
          refine gh_lstore (L' := [some (vR 32 0), some (vI a0), some (vI a1), some (vI a2), some (vI a3), some (vI r13), some (vL y6_15), none, some (vL y8_16), none, none, none, none, none, none, none]) dc_X7_fails_53 (by decide) rfl rfl ?_
          refine gh_iconst (v := (nI 0)) dc_X7_fails_55 gc_0 ?_
          refine gh_istore (L' := [some (vR 32 0), some (vI a0), some (vI a1), some (vI a2), some (vI a3), some (vI r13), some (vL y6_15), none, some (vL y8_16), none, some (vI (nI 0)), none, none, none, none, none]) dc_X7_fails_56 (by decide) rfl rfl ?_
          refine gh_drop (pc' := 0) [some (vR 32 0), some (vI a0), some (vI a1), some (vI a2), some (vI a3), some (vI r13), some (vL y6_15), none, some (vL y8_16), none, some (vI (nI 0)), none, none, none, none, none] ⟨rfl, rfl, rfl, rfl, rfl, rfl, rfl, rfl, rfl, trivial⟩ ?_
          obtain ⟨k, hw⟩ := hw
          exact lk_X7_fails_58  hE  k _ _ _ _ _ _ _ _ _ hw
        · replace hw := hw.2 c12
          refine gh_ldc2 (v := (-1000001 : Int64)) dc_X7_fails_38 tw_1215 ?_
          exact gh_lret dc_X7_fails_41 hE rfl hw
theorem lk_X7_drawn_53 {wd : gh_Wd} {x : gh_X} {Q : Int32 → gh_M → Prop}   (hE : gh_E wd (gh_Qi Q) x)   : ∀ (n : Nat) (x1 : Int32) (x3 : Int32) (x4 : Int64) (x6 : Int32) (M : gh_M), wl_X7_drawn_53 Q n x1 x3 x4 x6 M → gh_J mi_X7_drawn 7 wd x M 53 [some (vR 32 0), some (vI x1), none, some (vI x3), some (vL x4), none, some (vI x6), none] [] := by
  intro n
  induction n with
  | zero => intro x1 x3 x4 x6 M hw; exact hw.elim
  | succ n ih =>
    intro x1 x3 x4 x6 M hw
    unfold wl_X7_drawn_53 at hw
    refine gh_iload dc_X7_drawn_53 rfl ?_
    refine gh_iload_n dc_X7_drawn_55 rfl ?_
    refine gh_icmp_ge (tgt := 175) dc_X7_drawn_56 rfl (fun c16 => ?_) (fun c16 => ?_)
    · replace hw := hw.1 c16
      refine gh_iload_n dc_X7_drawn_175 rfl ?_
      refine gh_if_ne (tgt := 186) dc_X7_drawn_176 rfl (fun c17 => ?_) (fun c17 => ?_)
      · replace hw := hw.1 c17
        refine gh_aload_n dc_X7_drawn_186 rfl ?_
        refine gh_sipush (v := (nI 1917)) dc_X7_drawn_187 gs_1917 ?_
        refine gh_iconst (v := (nI 4)) dc_X7_drawn_190 gc_4 ?_
        refine gh_callVi (mi' := mi_X7_sumOf) (as := [vI (nI 1917), vI (nI 4)]) (S := []) (k := 32) (t := 0) dc_X7_drawn_191 ml_RX7_198 ok_X7_sumOf rfl rfl (by decide) (Nat.le_of_ble_eq_true rfl) (by decide) (by decide) rfl rfl (wk_X7_sumOf _ _ _ _ hw) (fun r18 M19 hw => ?_)
        exact gh_iret dc_X7_drawn_194 hE rfl hw
      · replace hw := hw.2 c17
        refine gh_aload_n dc_X7_drawn_179 rfl ?_
        refine gh_getI (k := 32) (t := 0) dc_X7_drawn_180 fl_RX7_143 (by decide) (by decide) rfl rfl ?_
        refine gh_goto (tgt := 194) dc_X7_drawn_183 rfl ?_
        exact gh_iret dc_X7_drawn_194 hE rfl hw
    · replace hw := hw.2 c16
      refine gh_lload dc_X7_drawn_59 rfl ?_
      refine gh_ldc2 (v := (16807 : Int64)) dc_X7_drawn_61 tw_1222 ?_
      refine gh_lmul dc_X7_drawn_64 ?_
      refine gh_ldc2 (v := (2147483647 : Int64)) dc_X7_drawn_65 tw_1223 ?_
      obtain ⟨h20, hw⟩ := hw
      refine gh_lrem dc_X7_drawn_68 h20 ?_
      obtain ⟨y4_21, ey4_21⟩ : ∃ z, z = ((x4 * (16807 : Int64)) - (x4 * (16807 : Int64)) / (2147483647 : Int64) * (2147483647 : Int64)) := ⟨_, rfl⟩
      rw [← ey4_21]
      replace hw := hw _ ey4_21
      refine gh_lstore (L' := [some (vR 32 0), some (vI x1), none, some (vI x3), some (vL y4_21), none, some (vI x6), none]) dc_X7_drawn_69 (by decide) rfl rfl ?_
      refine gh_lload dc_X7_drawn_71 rfl ?_
      refine gh_aload_n dc_X7_drawn_73 rfl ?_
      refine gh_getR (k := 32) (t := 0) dc_X7_drawn_74 fl_RX7_7 (by decide) (by decide) rfl rfl ?_
      refine gh_iconst (v := (nI 2)) dc_X7_drawn_77 gc_2 ?_
      obtain ⟨h22, hw⟩ := hw
      refine gh_iald (k := 33) (t := 0) dc_X7_drawn_78 rfl (by decide) (by decide) h22 ?_
      refine gh_i2l dc_X7_drawn_79 ?_
      obtain ⟨h23, hw⟩ := hw
      refine gh_lrem dc_X7_drawn_80 h23 ?_
      refine gh_l2i dc_X7_drawn_81 ?_
      obtain ⟨y7_24, ey7_24⟩ : ∃ z, z = (y4_21 - y4_21 / (M 33 0 (nI 2).toNatClampNeg).toInt64 * (M 33 0 (nI 2).toNatClampNeg).toInt64).toInt32 := ⟨_, rfl⟩
      rw [← ey7_24]
      replace hw := hw _ ey7_24
      refine gh_istore (L' := [some (vR 32 0), some (vI x1), none, some (vI x3), some (vL y4_21), none, some (vI x6), some (vI y7_24)]) dc_X7_drawn_82 (by decide) rfl rfl ?_
      refine gh_aload_n dc_X7_drawn_84 rfl ?_
      refine gh_getR (k := 32) (t := 0) dc_X7_drawn_85 fl_RX7_7 (by decide) (by decide) rfl rfl ?_
      refine gh_sipush (v := (nI 1917)) dc_X7_drawn_88 gs_1917 ?_
      refine gh_iload dc_X7_drawn_91 rfl ?_
      refine gh_callSi (mi' := mi_X7_carAt) (as := [vI (nI 1917), vI y7_24]) (S := [vR 33 0]) dc_X7_drawn_93 ml_RX7_112 ok_X7_carAt rfl rfl (by decide) (Nat.le_of_ble_eq_true rfl) (wk_X7_carAt _ _ _ _ hw) (fun r25 M26 hw => ?_)
      refine gh_iconst (v := (nI 3)) dc_X7_drawn_96 gc_3 ?_
      refine gh_iadd dc_X7_drawn_97 ?_
      obtain ⟨h27, hw⟩ := hw
      refine gh_iald (k := 33) (t := 0) dc_X7_drawn_98 rfl (by decide) (by decide) h27 ?_
      refine gh_bipush (v := (nI 21)) dc_X7_drawn_99 gb_21 ?_
      refine gh_icmp_ne (tgt := 116) dc_X7_drawn_101 rfl (fun c28 => ?_) (fun c28 => ?_)
      · replace hw := hw.1 c28
        refine gh_lload dc_X7_drawn_116 rfl ?_
        refine gh_ldc2 (v := (3 : Int64)) dc_X7_drawn_118 tw_1224 ?_
        obtain ⟨h29, hw⟩ := hw
        refine gh_lrem dc_X7_drawn_121 h29 ?_
        refine gh_lconst (v := lN 0) dc_X7_drawn_122 gl_0 ?_
        refine gh_lcmp dc_X7_drawn_123 ?_
        refine gh_if_ne (tgt := 162) dc_X7_drawn_124 rfl (fun c30 => ?_) (fun c30 => ?_)
        · replace hw := hw.1 c30
          refine gh_aload_n dc_X7_drawn_162 rfl ?_
          refine gh_sipush (v := (nI 1917)) dc_X7_drawn_163 gs_1917 ?_
          refine gh_callVv (mi' := mi_X7_tickAt) (as := [vI (nI 1917)]) (S := []) (k := 32) (t := 0) dc_X7_drawn_166 ml_RX7_161 ok_X7_tickAt rfl rfl (by decide) (Nat.le_of_ble_eq_true rfl) (by decide) (by decide) rfl rfl (wk_X7_tickAt _ _ _ hw) (fun M32 hw => ?_)
          obtain ⟨y6_33, ey6_33⟩ : ∃ z, z = (x6 + (nI 1)) := ⟨_, rfl⟩
          replace hw := hw _ ey6_33
          refine gh_iinc (v := y6_33) (L' := [some (vR 32 0), some (vI x1), none, some (vI x3), some (vL y4_21), none, some (vI y6_33), some (vI y7_24)]) dc_X7_drawn_169 rfl ((congrArg (fun z => x6 + z) gc_1).trans ey6_33.symm) (by decide) rfl rfl ?_
          refine gh_goto (tgt := 53) dc_X7_drawn_172 rfl ?_
          refine gh_drop (pc' := 0) [some (vR 32 0), some (vI x1), none, some (vI x3), some (vL y4_21), none, some (vI y6_33), none] ⟨rfl, rfl, rfl, rfl, rfl, trivial⟩ ?_
          exact ih _ _ _ _ _ hw
        · replace hw := hw.2 c30
          refine gh_aload_n dc_X7_drawn_127 rfl ?_
          refine gh_getR (k := 32) (t := 0) dc_X7_drawn_128 fl_RX7_7 (by decide) (by decide) rfl rfl ?_
          refine gh_sipush (v := (nI 1917)) dc_X7_drawn_131 gs_1917 ?_
          refine gh_lload dc_X7_drawn_134 rfl ?_
          refine gh_aload_n dc_X7_drawn_136 rfl ?_
          refine gh_getR (k := 32) (t := 0) dc_X7_drawn_137 fl_RX7_7 (by decide) (by decide) rfl rfl ?_
          refine gh_iconst (v := (nI 1)) dc_X7_drawn_140 gc_1 ?_
          obtain ⟨h34, hw⟩ := hw
          refine gh_iald (k := 33) (t := 0) dc_X7_drawn_141 rfl (by decide) (by decide) h34 ?_
          refine gh_i2l dc_X7_drawn_142 ?_
          obtain ⟨h35, hw⟩ := hw
          refine gh_lrem dc_X7_drawn_143 h35 ?_
          refine gh_l2i dc_X7_drawn_144 ?_
          refine gh_callSi (mi' := mi_X7_trickAt) (as := [vI (nI 1917), vI (y4_21 - y4_21 / (M26 33 0 (nI 1).toNatClampNeg).toInt64 * (M26 33 0 (nI 1).toNatClampNeg).toInt64).toInt32]) (S := [vR 33 0]) dc_X7_drawn_145 ml_RX7_98 ok_X7_trickAt rfl rfl (by decide) (Nat.le_of_ble_eq_true rfl) (wk_X7_trickAt _ _ _ _ hw) (fun r36 M37 hw => ?_)
          refine gh_iconst (v := (nI 1)) dc_X7_drawn_148 gc_1 ?_
          refine gh_iadd dc_X7_drawn_149 ?_
          refine gh_lload dc_X7_drawn_150 rfl ?_
          refine gh_aload_n dc_X7_drawn_152 rfl ?_
          refine gh_getR (k := 32) (t := 0) dc_X7_drawn_153 fl_RX7_7 (by decide) (by decide) rfl rfl ?_
          refine gh_iconst (v := (nI 0)) dc_X7_drawn_156 gc_0 ?_
          obtain ⟨h38, hw⟩ := hw
          refine gh_iald (k := 33) (t := 0) dc_X7_drawn_157 rfl (by decide) (by decide) h38 ?_
          refine gh_i2l dc_X7_drawn_158 ?_
          obtain ⟨h39, hw⟩ := hw
          refine gh_lrem dc_X7_drawn_159 h39 ?_
          refine gh_l2i dc_X7_drawn_160 ?_
          obtain ⟨h40, hw⟩ := hw
          refine gh_iast (k := 33) (t := 0) dc_X7_drawn_161 rfl (by decide) (by decide) h40 ?_
          obtain ⟨M41, eM41⟩ : ∃ z, z = (gh_st M37 33 0 (r36 + (nI 1)).toNatClampNeg (y4_21 - y4_21 / (M37 33 0 (nI 0).toNatClampNeg).toInt64 * (M37 33 0 (nI 0).toNatClampNeg).toInt64).toInt32) := ⟨_, rfl⟩
          rw [← eM41]
          replace hw := hw _ eM41
          refine gh_aload_n dc_X7_drawn_162 rfl ?_
          refine gh_sipush (v := (nI 1917)) dc_X7_drawn_163 gs_1917 ?_
          refine gh_callVv (mi' := mi_X7_tickAt) (as := [vI (nI 1917)]) (S := []) (k := 32) (t := 0) dc_X7_drawn_166 ml_RX7_161 ok_X7_tickAt rfl rfl (by decide) (Nat.le_of_ble_eq_true rfl) (by decide) (by decide) rfl rfl (wk_X7_tickAt _ _ _ hw) (fun M43 hw => ?_)
          obtain ⟨y6_44, ey6_44⟩ : ∃ z, z = (x6 + (nI 1)) := ⟨_, rfl⟩
          replace hw := hw _ ey6_44
          refine gh_iinc (v := y6_44) (L' := [some (vR 32 0), some (vI x1), none, some (vI x3), some (vL y4_21), none, some (vI y6_44), some (vI y7_24)]) dc_X7_drawn_169 rfl ((congrArg (fun z => x6 + z) gc_1).trans ey6_44.symm) (by decide) rfl rfl ?_
          refine gh_goto (tgt := 53) dc_X7_drawn_172 rfl ?_
          refine gh_drop (pc' := 0) [some (vR 32 0), some (vI x1), none, some (vI x3), some (vL y4_21), none, some (vI y6_44), none] ⟨rfl, rfl, rfl, rfl, rfl, trivial⟩ ?_
          exact ih _ _ _ _ _ hw
      · replace hw := hw.2 c28
        refine gh_aload_n dc_X7_drawn_104 rfl ?_
        refine gh_sipush (v := (nI 1917)) dc_X7_drawn_105 gs_1917 ?_
        refine gh_iload dc_X7_drawn_108 rfl ?_
        refine gh_callVv (mi' := mi_X7_goesAgain) (as := [vI (nI 1917), vI y7_24]) (S := []) (k := 32) (t := 0) dc_X7_drawn_110 ml_RX7_183 ok_X7_goesAgain rfl rfl (by decide) (Nat.le_of_ble_eq_true rfl) (by decide) (by decide) rfl rfl (wk_X7_goesAgain _ _ _ _ hw) (fun M46 hw => ?_)
        refine gh_goto (tgt := 162) dc_X7_drawn_113 rfl ?_
        refine gh_aload_n dc_X7_drawn_162 rfl ?_
        refine gh_sipush (v := (nI 1917)) dc_X7_drawn_163 gs_1917 ?_
        refine gh_callVv (mi' := mi_X7_tickAt) (as := [vI (nI 1917)]) (S := []) (k := 32) (t := 0) dc_X7_drawn_166 ml_RX7_161 ok_X7_tickAt rfl rfl (by decide) (Nat.le_of_ble_eq_true rfl) (by decide) (by decide) rfl rfl (wk_X7_tickAt _ _ _ hw) (fun M48 hw => ?_)
        obtain ⟨y6_49, ey6_49⟩ : ∃ z, z = (x6 + (nI 1)) := ⟨_, rfl⟩
        replace hw := hw _ ey6_49
        refine gh_iinc (v := y6_49) (L' := [some (vR 32 0), some (vI x1), none, some (vI x3), some (vL y4_21), none, some (vI y6_49), some (vI y7_24)]) dc_X7_drawn_169 rfl ((congrArg (fun z => x6 + z) gc_1).trans ey6_49.symm) (by decide) rfl rfl ?_
        refine gh_goto (tgt := 53) dc_X7_drawn_172 rfl ?_
        refine gh_drop (pc' := 0) [some (vR 32 0), some (vI x1), none, some (vI x3), some (vL y4_21), none, some (vI y6_49), none] ⟨rfl, rfl, rfl, rfl, rfl, trivial⟩ ?_
        exact ih _ _ _ _ _ hw
theorem wk_X7_drawn   (Q : Int32 → gh_M → Prop) (a0 : Int32) (a1 : Int32) (a2 : Int32) (M : gh_M) (hw : wp_X7_drawn  a0 a1 a2 M Q) : gh_Calls 7 mi_X7_drawn [vR 32 0, vI a0, vI a1, vI a2] M (gh_Qi Q) := by
  refine gh_of (by decide) rfl 4 rfl (L0 := [some (vR 32 0), some (vI a0), some (vI a1), some (vI a2), none, none, none, none]) rfl (fun wd x hE => ?_)
  unfold wp_X7_drawn at hw
  refine gh_aload_n dc_X7_drawn_0 rfl ?_
  refine gh_callVi (mi' := mi_X7_isTrain) (as := []) (S := []) (k := 32) (t := 0) dc_X7_drawn_1 ml_RX7_165 ok_X7_isTrain rfl rfl (by decide) (Nat.le_of_ble_eq_true rfl) (by decide) (by decide) rfl rfl (wk_X7_isTrain _ _ hw) (fun r1 M2 hw => ?_)
  refine gh_if_ne (tgt := 10) dc_X7_drawn_4 rfl (fun c3 => ?_) (fun c3 => ?_)
  · replace hw := hw.1 c3
    refine gh_iload_n dc_X7_drawn_10 rfl ?_
    refine gh_iconst (v := (nI 0)) dc_X7_drawn_11 gc_0 ?_
    refine gh_bipush (v := (nI 60)) dc_X7_drawn_12 gb_60 ?_
    refine gh_callSi (mi' := mi_X7_in) (as := [vI a0, vI (nI 0), vI (nI 60)]) (S := []) dc_X7_drawn_14 ml_RX7_51 ok_X7_in rfl rfl (by decide) (Nat.le_of_ble_eq_true rfl) (wk_X7_in _ _ _ _ _ hw) (fun r4 M5 hw => ?_)
    refine gh_if_eq (tgt := 39) dc_X7_drawn_17 rfl (fun c6 => ?_) (fun c6 => ?_)
    · replace hw := hw.1 c6
      refine gh_ldc (v := (-1000001 : Int32)) dc_X7_drawn_39 tw_898 ?_
      exact gh_iret dc_X7_drawn_41 hE rfl hw
    · replace hw := hw.2 c6
      refine gh_iload_n dc_X7_drawn_20 rfl ?_
      refine gh_iconst (v := (nI 1)) dc_X7_drawn_21 gc_1 ?_
      refine gh_ldc (v := (999999 : Int32)) dc_X7_drawn_22 tw_1221 ?_
      refine gh_callSi (mi' := mi_X7_in) (as := [vI a1, vI (nI 1), vI (999999 : Int32)]) (S := []) dc_X7_drawn_24 ml_RX7_51 ok_X7_in rfl rfl (by decide) (Nat.le_of_ble_eq_true rfl) (wk_X7_in _ _ _ _ _ hw) (fun r7 M8 hw => ?_)
      refine gh_if_eq (tgt := 39) dc_X7_drawn_27 rfl (fun c9 => ?_) (fun c9 => ?_)
      · replace hw := hw.1 c9
        refine gh_ldc (v := (-1000001 : Int32)) dc_X7_drawn_39 tw_898 ?_
        exact gh_iret dc_X7_drawn_41 hE rfl hw
      · replace hw := hw.2 c9
        refine gh_iload_n dc_X7_drawn_30 rfl ?_
        refine gh_iconst (v := (nI 0)) dc_X7_drawn_31 gc_0 ?_
        refine gh_iconst (v := (nI 1)) dc_X7_drawn_32 gc_1 ?_
        refine gh_callSi (mi' := mi_X7_in) (as := [vI a2, vI (nI 0), vI (nI 1)]) (S := []) dc_X7_drawn_33 ml_RX7_51 ok_X7_in rfl rfl (by decide) (Nat.le_of_ble_eq_true rfl) (wk_X7_in _ _ _ _ _ hw) (fun r10 M11 hw => ?_)
        refine gh_if_ne (tgt := 42) dc_X7_drawn_36 rfl (fun c12 => ?_) (fun c12 => ?_)
        · replace hw := hw.1 c12
          refine gh_aload_n dc_X7_drawn_42 rfl ?_
          refine gh_callVv (mi' := mi_X7_beginTry) (as := []) (S := []) (k := 32) (t := 0) dc_X7_drawn_43 ml_RX7_192 ok_X7_beginTry rfl rfl (by decide) (Nat.le_of_ble_eq_true rfl) (by decide) (by decide) rfl rfl (wk_X7_beginTry _ _ hw) (fun M14 hw => ?_)
          refine gh_iload_n dc_X7_drawn_46 rfl ?_
          refine gh_i2l dc_X7_drawn_47 ?_
          obtain ⟨y4_15, ey4_15⟩ : ∃ z, z = a1.toInt64 := ⟨_, rfl⟩
          rw [← ey4_15]
          replace hw := hw _ ey4_15
          refine gh_lstore (L' := [some (vR 32 0), some (vI a0), some (vI a1), some (vI a2), some (vL y4_15), none, none, none]) dc_X7_drawn_48 (by decide) rfl rfl ?_
          refine gh_iconst (v := (nI 0)) dc_X7_drawn_50 gc_0 ?_
          refine gh_istore (L' := [some (vR 32 0), some (vI a0), some (vI a1), some (vI a2), some (vL y4_15), none, some (vI (nI 0)), none]) dc_X7_drawn_51 (by decide) rfl rfl ?_
          refine gh_drop (pc' := 0) [some (vR 32 0), some (vI a0), none, some (vI a2), some (vL y4_15), none, some (vI (nI 0)), none] ⟨rfl, rfl, rfl, rfl, rfl, trivial⟩ ?_
          obtain ⟨k, hw⟩ := hw
          exact lk_X7_drawn_53  hE  k _ _ _ _ _ hw
        · replace hw := hw.2 c12
          refine gh_ldc (v := (-1000001 : Int32)) dc_X7_drawn_39 tw_898 ?_
          exact gh_iret dc_X7_drawn_41 hE rfl hw
  · replace hw := hw.2 c3
    refine gh_ldc (v := (-1000002 : Int32)) dc_X7_drawn_7 tw_991 ?_
    exact gh_iret dc_X7_drawn_9 hE rfl hw
theorem wk_X7_image   (Q : Int32 → gh_M → Prop) (a0 : Int32) (M : gh_M) (hw : wp_X7_image  a0 M Q) : gh_Calls 2 mi_X7_image [vR 32 0, vI a0] M (gh_Qi Q) := by
  refine gh_of (by decide) rfl 0 rfl (L0 := [some (vR 32 0), some (vI a0)]) rfl (fun wd x hE => ?_)
  unfold wp_X7_image at hw
  refine gh_iload_n dc_X7_image_0 rfl ?_
  refine gh_iconst (v := (nI 0)) dc_X7_image_1 gc_0 ?_
  refine gh_iconst (v := (nI 1)) dc_X7_image_2 gc_1 ?_
  refine gh_callSi (mi' := mi_X7_in) (as := [vI a0, vI (nI 0), vI (nI 1)]) (S := []) dc_X7_image_3 ml_RX7_51 ok_X7_in rfl rfl (by decide) (Nat.le_of_ble_eq_true rfl) (wk_X7_in _ _ _ _ _ hw) (fun r1 M2 hw => ?_)
  refine gh_if_ne (tgt := 12) dc_X7_image_6 rfl (fun c3 => ?_) (fun c3 => ?_)
  · replace hw := hw.1 c3
    refine gh_aload_n dc_X7_image_12 rfl ?_
    refine gh_callVi (mi' := mi_X7_isTrain) (as := []) (S := []) (k := 32) (t := 0) dc_X7_image_13 ml_RX7_165 ok_X7_isTrain rfl rfl (by decide) (Nat.le_of_ble_eq_true rfl) (by decide) (by decide) rfl rfl (wk_X7_isTrain _ _ hw) (fun r4 M5 hw => ?_)
    refine gh_if_ne (tgt := 22) dc_X7_image_16 rfl (fun c6 => ?_) (fun c6 => ?_)
    · replace hw := hw.1 c6
      refine gh_aload_n dc_X7_image_22 rfl ?_
      refine gh_iconst (v := (nI 0)) dc_X7_image_23 gc_0 ?_
      refine gh_sipush (v := (nI 1775)) dc_X7_image_24 gs_1775 ?_
      refine gh_bipush (v := (nI 71)) dc_X7_image_27 gb_71 ?_
      refine gh_iload_n dc_X7_image_29 rfl ?_
      refine gh_imul dc_X7_image_30 ?_
      refine gh_iadd dc_X7_image_31 ?_
      refine gh_callVv (mi' := mi_X7_copyRow) (as := [vI (nI 0), vI ((nI 1775) + ((nI 71) * a0))]) (S := []) (k := 32) (t := 0) dc_X7_image_32 ml_RX7_128 ok_X7_copyRow rfl rfl (by decide) (Nat.le_of_ble_eq_true rfl) (by decide) (by decide) rfl rfl (wk_X7_copyRow _ _ _ _ hw) (fun M8 hw => ?_)
      refine gh_aload_n dc_X7_image_35 rfl ?_
      refine gh_dupR dc_X7_image_36 ?_
      refine gh_getI (k := 32) (t := 0) dc_X7_image_37 fl_RX7_253 (by decide) (by decide) rfl rfl ?_
      refine gh_iconst (v := (nI 1)) dc_X7_image_40 gc_1 ?_
      refine gh_iload_n dc_X7_image_41 rfl ?_
      refine gh_ishl dc_X7_image_42 ?_
      refine gh_ior dc_X7_image_43 ?_
      refine gh_put (k := 32) (t := 0) dc_X7_image_44 fl_RX7_253 (by decide) (by decide) rfl rfl (fun _ h => by cases h; rfl) rfl rfl ?_
      obtain ⟨M9, eM9⟩ : ∃ z, z = (gh_st M8 32 0 2 ((M8 32 0 2) ||| ((nI 1) <<< (a0 &&& 31)))) := ⟨_, rfl⟩
      rw [← eM9]
      replace hw := hw _ eM9
      refine gh_iconst (v := (nI 1)) dc_X7_image_47 gc_1 ?_
      exact gh_iret dc_X7_image_48 hE rfl hw
    · replace hw := hw.2 c6
      refine gh_ldc (v := (-1000002 : Int32)) dc_X7_image_19 tw_991 ?_
      exact gh_iret dc_X7_image_21 hE rfl hw
  · replace hw := hw.2 c3
    refine gh_ldc (v := (-1000001 : Int32)) dc_X7_image_9 tw_898 ?_
    exact gh_iret dc_X7_image_11 hE rfl hw
theorem wk_X7_restore   (Q : Int32 → gh_M → Prop) (a0 : Int32) (M : gh_M) (hw : wp_X7_restore  a0 M Q) : gh_Calls 2 mi_X7_restore [vR 32 0, vI a0] M (gh_Qi Q) := by
  refine gh_of (by decide) rfl 0 rfl (L0 := [some (vR 32 0), some (vI a0)]) rfl (fun wd x hE => ?_)
  unfold wp_X7_restore at hw
  refine gh_iload_n dc_X7_restore_0 rfl ?_
  refine gh_iconst (v := (nI 0)) dc_X7_restore_1 gc_0 ?_
  refine gh_iconst (v := (nI 1)) dc_X7_restore_2 gc_1 ?_
  refine gh_callSi (mi' := mi_X7_in) (as := [vI a0, vI (nI 0), vI (nI 1)]) (S := []) dc_X7_restore_3 ml_RX7_51 ok_X7_in rfl rfl (by decide) (Nat.le_of_ble_eq_true rfl) (wk_X7_in _ _ _ _ _ hw) (fun r1 M2 hw => ?_)
  refine gh_if_ne (tgt := 12) dc_X7_restore_6 rfl (fun c3 => ?_) (fun c3 => ?_)
  · replace hw := hw.1 c3
    refine gh_aload_n dc_X7_restore_12 rfl ?_
    refine gh_getI (k := 32) (t := 0) dc_X7_restore_13 fl_RX7_253 (by decide) (by decide) rfl rfl ?_
    refine gh_iload_n dc_X7_restore_16 rfl ?_
    refine gh_callSi (mi' := mi_X7_has) (as := [vI (M2 32 0 2), vI a0]) (S := []) dc_X7_restore_17 ml_RX7_216 ok_X7_has rfl rfl (by decide) (Nat.le_of_ble_eq_true rfl) (wk_X7_has _ _ _ _ hw) (fun r4 M5 hw => ?_)
    refine gh_if_ne (tgt := 26) dc_X7_restore_20 rfl (fun c6 => ?_) (fun c6 => ?_)
    · replace hw := hw.1 c6
      refine gh_aload_n dc_X7_restore_26 rfl ?_
      refine gh_sipush (v := (nI 1775)) dc_X7_restore_27 gs_1775 ?_
      refine gh_bipush (v := (nI 71)) dc_X7_restore_30 gb_71 ?_
      refine gh_iload_n dc_X7_restore_32 rfl ?_
      refine gh_imul dc_X7_restore_33 ?_
      refine gh_iadd dc_X7_restore_34 ?_
      refine gh_iconst (v := (nI 0)) dc_X7_restore_35 gc_0 ?_
      refine gh_callVv (mi' := mi_X7_copyRow) (as := [vI ((nI 1775) + ((nI 71) * a0)), vI (nI 0)]) (S := []) (k := 32) (t := 0) dc_X7_restore_36 ml_RX7_128 ok_X7_copyRow rfl rfl (by decide) (Nat.le_of_ble_eq_true rfl) (by decide) (by decide) rfl rfl (wk_X7_copyRow _ _ _ _ hw) (fun M8 hw => ?_)
      refine gh_aload_n dc_X7_restore_39 rfl ?_
      refine gh_iconst (v := (nI 0)) dc_X7_restore_40 gc_0 ?_
      refine gh_put (k := 32) (t := 0) dc_X7_restore_41 fl_RX7_131 (by decide) (by decide) rfl rfl (fun _ h => by cases h; rfl) rfl rfl ?_
      obtain ⟨M9, eM9⟩ : ∃ z, z = (gh_st M8 32 0 1 (nI 0)) := ⟨_, rfl⟩
      rw [← eM9]
      replace hw := hw _ eM9
      refine gh_iconst (v := (nI 1)) dc_X7_restore_44 gc_1 ?_
      exact gh_iret dc_X7_restore_45 hE rfl hw
    · replace hw := hw.2 c6
      refine gh_ldc (v := (-1000002 : Int32)) dc_X7_restore_23 tw_991 ?_
      exact gh_iret dc_X7_restore_25 hE rfl hw
  · replace hw := hw.2 c3
    refine gh_ldc (v := (-1000001 : Int32)) dc_X7_restore_9 tw_898 ?_
    exact gh_iret dc_X7_restore_11 hE rfl hw
theorem wk_X7_kindAt   (Q : Int32 → gh_M → Prop) (a0 : Int32) (M : gh_M) (hw : wp_X7_kindAt  a0 M Q) : gh_Calls 2 mi_X7_kindAt [vR 32 0, vI a0] M (gh_Qi Q) := by
  refine gh_of (by decide) rfl 0 rfl (L0 := [some (vR 32 0), some (vI a0)]) rfl (fun wd x hE => ?_)
  unfold wp_X7_kindAt at hw
  refine gh_aload_n dc_X7_kindAt_0 rfl ?_
  refine gh_getR (k := 32) (t := 0) dc_X7_kindAt_1 fl_RX7_7 (by decide) (by decide) rfl rfl ?_
  refine gh_iconst (v := (nI 0)) dc_X7_kindAt_4 gc_0 ?_
  refine gh_iload_n dc_X7_kindAt_5 rfl ?_
  refine gh_callSi (mi' := mi_X7_trickAt) (as := [vI (nI 0), vI a0]) (S := [vR 33 0]) dc_X7_kindAt_6 ml_RX7_98 ok_X7_trickAt rfl rfl (by decide) (Nat.le_of_ble_eq_true rfl) (wk_X7_trickAt _ _ _ _ hw) (fun r1 M2 hw => ?_)
  obtain ⟨h3, hw⟩ := hw
  refine gh_iald (k := 33) (t := 0) dc_X7_kindAt_9 rfl (by decide) (by decide) h3 ?_
  exact gh_iret dc_X7_kindAt_10 hE rfl hw
theorem wk_X7_kind   (Q : Int32 → gh_M → Prop) (a0 : Int32) (M : gh_M) (hw : wp_X7_kind  a0 M Q) : gh_Calls 3 mi_X7_kind [vR 32 0, vI a0] M (gh_Qi Q) := by
  refine gh_of (by decide) rfl 0 rfl (L0 := [some (vR 32 0), some (vI a0)]) rfl (fun wd x hE => ?_)
  unfold wp_X7_kind at hw
  refine gh_aload_n dc_X7_kind_0 rfl ?_
  refine gh_iload_n dc_X7_kind_1 rfl ?_
  refine gh_callVi (mi' := mi_X7_isTrick) (as := [vI a0]) (S := []) (k := 32) (t := 0) dc_X7_kind_2 ml_RX7_174 ok_X7_isTrick rfl rfl (by decide) (Nat.le_of_ble_eq_true rfl) (by decide) (by decide) rfl rfl (wk_X7_isTrick _ _ _ hw) (fun r1 M2 hw => ?_)
  refine gh_if_eq (tgt := 16) dc_X7_kind_5 rfl (fun c3 => ?_) (fun c3 => ?_)
  · replace hw := hw.1 c3
    refine gh_ldc (v := (-1000001 : Int32)) dc_X7_kind_16 tw_898 ?_
    exact gh_iret dc_X7_kind_18 hE rfl hw
  · replace hw := hw.2 c3
    refine gh_aload_n dc_X7_kind_8 rfl ?_
    refine gh_iload_n dc_X7_kind_9 rfl ?_
    refine gh_callVi (mi' := mi_X7_kindAt) (as := [vI a0]) (S := []) (k := 32) (t := 0) dc_X7_kind_10 ml_RX7_256 ok_X7_kindAt rfl rfl (by decide) (Nat.le_of_ble_eq_true rfl) (by decide) (by decide) rfl rfl (wk_X7_kindAt _ _ _ hw) (fun r4 M5 hw => ?_)
    refine gh_goto (tgt := 18) dc_X7_kind_13 rfl ?_
    exact gh_iret dc_X7_kind_18 hE rfl hw
theorem wk_X7_as   (Q : Int32 → gh_M → Prop) (a0 : Int32) (a1 : Int32) (M : gh_M) (hw : wp_X7_as  a0 a1 M Q) : gh_Calls 3 mi_X7_as [vR 32 0, vI a0, vI a1] M (gh_Qi Q) := by
  refine gh_of (by decide) rfl 2 rfl (L0 := [some (vR 32 0), some (vI a0), some (vI a1), none, none]) rfl (fun wd x hE => ?_)
  unfold wp_X7_as at hw
  refine gh_aload_n dc_X7_as_0 rfl ?_
  refine gh_iload_n dc_X7_as_1 rfl ?_
  refine gh_callVi (mi' := mi_X7_isTrick) (as := [vI a0]) (S := []) (k := 32) (t := 0) dc_X7_as_2 ml_RX7_174 ok_X7_isTrick rfl rfl (by decide) (Nat.le_of_ble_eq_true rfl) (by decide) (by decide) rfl rfl (wk_X7_isTrick _ _ _ hw) (fun r1 M2 hw => ?_)
  refine gh_if_eq (tgt := 17) dc_X7_as_5 rfl (fun c3 => ?_) (fun c3 => ?_)
  · replace hw := hw.1 c3
    refine gh_ldc (v := (-1000001 : Int32)) dc_X7_as_17 tw_898 ?_
    exact gh_iret dc_X7_as_19 hE rfl hw
  · replace hw := hw.2 c3
    refine gh_iload_n dc_X7_as_8 rfl ?_
    refine gh_iconst (v := (nI 0)) dc_X7_as_9 gc_0 ?_
    refine gh_iconst (v := (nI 5)) dc_X7_as_10 gc_5 ?_
    refine gh_callSi (mi' := mi_X7_in) (as := [vI a1, vI (nI 0), vI (nI 5)]) (S := []) dc_X7_as_11 ml_RX7_51 ok_X7_in rfl rfl (by decide) (Nat.le_of_ble_eq_true rfl) (wk_X7_in _ _ _ _ _ hw) (fun r4 M5 hw => ?_)
    refine gh_if_ne (tgt := 20) dc_X7_as_14 rfl (fun c6 => ?_) (fun c6 => ?_)
    · replace hw := hw.1 c6
      refine gh_aload_n dc_X7_as_20 rfl ?_
      refine gh_iload_n dc_X7_as_21 rfl ?_
      refine gh_callVi (mi' := mi_X7_kindAt) (as := [vI a0]) (S := []) (k := 32) (t := 0) dc_X7_as_22 ml_RX7_256 ok_X7_kindAt rfl rfl (by decide) (Nat.le_of_ble_eq_true rfl) (by decide) (by decide) rfl rfl (wk_X7_kindAt _ _ _ hw) (fun r7 M8 hw => ?_)
      refine gh_istore_n (L' := [some (vR 32 0), some (vI a0), some (vI a1), some (vI r7), none]) dc_X7_as_25 (by decide) rfl rfl ?_
      refine gh_iload_n dc_X7_as_26 rfl ?_
      refine gh_if_eq (tgt := 55) dc_X7_as_27 rfl (fun c9 => ?_) (fun c9 => ?_)
      · replace hw := hw.1 c9
        refine gh_iconst (v := (nI 1)) dc_X7_as_55 gc_1 ?_
        refine gh_goto (tgt := 60) dc_X7_as_56 rfl ?_
        refine gh_istore (L' := [some (vR 32 0), some (vI a0), some (vI a1), some (vI r7), some (vI (nI 1))]) dc_X7_as_60 (by decide) rfl rfl ?_
        refine gh_iload dc_X7_as_62 rfl ?_
        refine gh_if_eq (tgt := 75) dc_X7_as_64 rfl (fun h => absurd h (by decide)) (fun _ => ?_)
        refine gh_aload_n dc_X7_as_67 rfl ?_
        refine gh_iload_n dc_X7_as_68 rfl ?_
        refine gh_callVi (mi' := mi_X7_well) (as := [vI a0]) (S := []) (k := 32) (t := 0) dc_X7_as_69 ml_RX7_64 ok_X7_well rfl rfl (by decide) (Nat.le_of_ble_eq_true rfl) (by decide) (by decide) rfl rfl (wk_X7_well _ _ _ hw) (fun r10 M11 hw => ?_)
        refine gh_goto (tgt := 80) dc_X7_as_72 rfl ?_
        exact gh_iret dc_X7_as_80 hE rfl hw
      · replace hw := hw.2 c9
        refine gh_iload_n dc_X7_as_30 rfl ?_
        refine gh_iload_n dc_X7_as_31 rfl ?_
        refine gh_icmp_eq (tgt := 55) dc_X7_as_32 rfl (fun c12 => ?_) (fun c12 => ?_)
        · replace hw := hw.1 c12
          refine gh_iconst (v := (nI 1)) dc_X7_as_55 gc_1 ?_
          refine gh_goto (tgt := 60) dc_X7_as_56 rfl ?_
          refine gh_istore (L' := [some (vR 32 0), some (vI a0), some (vI a1), some (vI r7), some (vI (nI 1))]) dc_X7_as_60 (by decide) rfl rfl ?_
          refine gh_iload dc_X7_as_62 rfl ?_
          refine gh_if_eq (tgt := 75) dc_X7_as_64 rfl (fun h => absurd h (by decide)) (fun _ => ?_)
          refine gh_aload_n dc_X7_as_67 rfl ?_
          refine gh_iload_n dc_X7_as_68 rfl ?_
          refine gh_callVi (mi' := mi_X7_well) (as := [vI a0]) (S := []) (k := 32) (t := 0) dc_X7_as_69 ml_RX7_64 ok_X7_well rfl rfl (by decide) (Nat.le_of_ble_eq_true rfl) (by decide) (by decide) rfl rfl (wk_X7_well _ _ _ hw) (fun r13 M14 hw => ?_)
          refine gh_goto (tgt := 80) dc_X7_as_72 rfl ?_
          exact gh_iret dc_X7_as_80 hE rfl hw
        · replace hw := hw.2 c12
          refine gh_iload_n dc_X7_as_35 rfl ?_
          refine gh_iconst (v := (nI 1)) dc_X7_as_36 gc_1 ?_
          refine gh_icmp_ne (tgt := 45) dc_X7_as_37 rfl (fun c15 => ?_) (fun c15 => ?_)
          · replace hw := hw.1 c15
            refine gh_iload_n dc_X7_as_45 rfl ?_
            refine gh_iconst (v := (nI 4)) dc_X7_as_46 gc_4 ?_
            refine gh_icmp_ne (tgt := 59) dc_X7_as_47 rfl (fun c16 => ?_) (fun c16 => ?_)
            · replace hw := hw.1 c16
              refine gh_iconst (v := (nI 0)) dc_X7_as_59 gc_0 ?_
              refine gh_istore (L' := [some (vR 32 0), some (vI a0), some (vI a1), some (vI r7), some (vI (nI 0))]) dc_X7_as_60 (by decide) rfl rfl ?_
              refine gh_iload dc_X7_as_62 rfl ?_
              refine gh_if_eq (tgt := 75) dc_X7_as_64 rfl (fun _ => ?_) (fun h => absurd h (by decide))
              refine gh_aload_n dc_X7_as_75 rfl ?_
              refine gh_iconst (v := (nI 3)) dc_X7_as_76 gc_3 ?_
              refine gh_callVi (mi' := mi_X7_found) (as := [vI (nI 3)]) (S := []) (k := 32) (t := 0) dc_X7_as_77 ml_RX7_60 ok_X7_found rfl rfl (by decide) (Nat.le_of_ble_eq_true rfl) (by decide) (by decide) rfl rfl (wk_X7_found _ _ _ hw) (fun r17 M18 hw => ?_)
              exact gh_iret dc_X7_as_80 hE rfl hw
            · replace hw := hw.2 c16
              refine gh_iload_n dc_X7_as_50 rfl ?_
              refine gh_iconst (v := (nI 5)) dc_X7_as_51 gc_5 ?_
              refine gh_icmp_ne (tgt := 59) dc_X7_as_52 rfl (fun c19 => ?_) (fun c19 => ?_)
              · replace hw := hw.1 c19
                refine gh_iconst (v := (nI 0)) dc_X7_as_59 gc_0 ?_
                refine gh_istore (L' := [some (vR 32 0), some (vI a0), some (vI a1), some (vI r7), some (vI (nI 0))]) dc_X7_as_60 (by decide) rfl rfl ?_
                refine gh_iload dc_X7_as_62 rfl ?_
                refine gh_if_eq (tgt := 75) dc_X7_as_64 rfl (fun _ => ?_) (fun h => absurd h (by decide))
                refine gh_aload_n dc_X7_as_75 rfl ?_
                refine gh_iconst (v := (nI 3)) dc_X7_as_76 gc_3 ?_
                refine gh_callVi (mi' := mi_X7_found) (as := [vI (nI 3)]) (S := []) (k := 32) (t := 0) dc_X7_as_77 ml_RX7_60 ok_X7_found rfl rfl (by decide) (Nat.le_of_ble_eq_true rfl) (by decide) (by decide) rfl rfl (wk_X7_found _ _ _ hw) (fun r20 M21 hw => ?_)
                exact gh_iret dc_X7_as_80 hE rfl hw
              · replace hw := hw.2 c19
                refine gh_iconst (v := (nI 1)) dc_X7_as_55 gc_1 ?_
                refine gh_goto (tgt := 60) dc_X7_as_56 rfl ?_
                refine gh_istore (L' := [some (vR 32 0), some (vI a0), some (vI a1), some (vI r7), some (vI (nI 1))]) dc_X7_as_60 (by decide) rfl rfl ?_
                refine gh_iload dc_X7_as_62 rfl ?_
                refine gh_if_eq (tgt := 75) dc_X7_as_64 rfl (fun h => absurd h (by decide)) (fun _ => ?_)
                refine gh_aload_n dc_X7_as_67 rfl ?_
                refine gh_iload_n dc_X7_as_68 rfl ?_
                refine gh_callVi (mi' := mi_X7_well) (as := [vI a0]) (S := []) (k := 32) (t := 0) dc_X7_as_69 ml_RX7_64 ok_X7_well rfl rfl (by decide) (Nat.le_of_ble_eq_true rfl) (by decide) (by decide) rfl rfl (wk_X7_well _ _ _ hw) (fun r22 M23 hw => ?_)
                refine gh_goto (tgt := 80) dc_X7_as_72 rfl ?_
                exact gh_iret dc_X7_as_80 hE rfl hw
          · replace hw := hw.2 c15
            refine gh_iload_n dc_X7_as_40 rfl ?_
            refine gh_iconst (v := (nI 4)) dc_X7_as_41 gc_4 ?_
            refine gh_icmp_lt (tgt := 55) dc_X7_as_42 rfl (fun c24 => ?_) (fun c24 => ?_)
            · replace hw := hw.1 c24
              refine gh_iconst (v := (nI 1)) dc_X7_as_55 gc_1 ?_
              refine gh_goto (tgt := 60) dc_X7_as_56 rfl ?_
              refine gh_istore (L' := [some (vR 32 0), some (vI a0), some (vI a1), some (vI r7), some (vI (nI 1))]) dc_X7_as_60 (by decide) rfl rfl ?_
              refine gh_iload dc_X7_as_62 rfl ?_
              refine gh_if_eq (tgt := 75) dc_X7_as_64 rfl (fun h => absurd h (by decide)) (fun _ => ?_)
              refine gh_aload_n dc_X7_as_67 rfl ?_
              refine gh_iload_n dc_X7_as_68 rfl ?_
              refine gh_callVi (mi' := mi_X7_well) (as := [vI a0]) (S := []) (k := 32) (t := 0) dc_X7_as_69 ml_RX7_64 ok_X7_well rfl rfl (by decide) (Nat.le_of_ble_eq_true rfl) (by decide) (by decide) rfl rfl (wk_X7_well _ _ _ hw) (fun r25 M26 hw => ?_)
              refine gh_goto (tgt := 80) dc_X7_as_72 rfl ?_
              exact gh_iret dc_X7_as_80 hE rfl hw
            · replace hw := hw.2 c24
              refine gh_iload_n dc_X7_as_45 rfl ?_
              refine gh_iconst (v := (nI 4)) dc_X7_as_46 gc_4 ?_
              refine gh_icmp_ne (tgt := 59) dc_X7_as_47 rfl (fun c27 => ?_) (fun c27 => ?_)
              · replace hw := hw.1 c27
                refine gh_iconst (v := (nI 0)) dc_X7_as_59 gc_0 ?_
                refine gh_istore (L' := [some (vR 32 0), some (vI a0), some (vI a1), some (vI r7), some (vI (nI 0))]) dc_X7_as_60 (by decide) rfl rfl ?_
                refine gh_iload dc_X7_as_62 rfl ?_
                refine gh_if_eq (tgt := 75) dc_X7_as_64 rfl (fun _ => ?_) (fun h => absurd h (by decide))
                refine gh_aload_n dc_X7_as_75 rfl ?_
                refine gh_iconst (v := (nI 3)) dc_X7_as_76 gc_3 ?_
                refine gh_callVi (mi' := mi_X7_found) (as := [vI (nI 3)]) (S := []) (k := 32) (t := 0) dc_X7_as_77 ml_RX7_60 ok_X7_found rfl rfl (by decide) (Nat.le_of_ble_eq_true rfl) (by decide) (by decide) rfl rfl (wk_X7_found _ _ _ hw) (fun r28 M29 hw => ?_)
                exact gh_iret dc_X7_as_80 hE rfl hw
              · replace hw := hw.2 c27
                refine gh_iload_n dc_X7_as_50 rfl ?_
                refine gh_iconst (v := (nI 5)) dc_X7_as_51 gc_5 ?_
                refine gh_icmp_ne (tgt := 59) dc_X7_as_52 rfl (fun c30 => ?_) (fun c30 => ?_)
                · replace hw := hw.1 c30
                  refine gh_iconst (v := (nI 0)) dc_X7_as_59 gc_0 ?_
                  refine gh_istore (L' := [some (vR 32 0), some (vI a0), some (vI a1), some (vI r7), some (vI (nI 0))]) dc_X7_as_60 (by decide) rfl rfl ?_
                  refine gh_iload dc_X7_as_62 rfl ?_
                  refine gh_if_eq (tgt := 75) dc_X7_as_64 rfl (fun _ => ?_) (fun h => absurd h (by decide))
                  refine gh_aload_n dc_X7_as_75 rfl ?_
                  refine gh_iconst (v := (nI 3)) dc_X7_as_76 gc_3 ?_
                  refine gh_callVi (mi' := mi_X7_found) (as := [vI (nI 3)]) (S := []) (k := 32) (t := 0) dc_X7_as_77 ml_RX7_60 ok_X7_found rfl rfl (by decide) (Nat.le_of_ble_eq_true rfl) (by decide) (by decide) rfl rfl (wk_X7_found _ _ _ hw) (fun r31 M32 hw => ?_)
                  exact gh_iret dc_X7_as_80 hE rfl hw
                · replace hw := hw.2 c30
                  refine gh_iconst (v := (nI 1)) dc_X7_as_55 gc_1 ?_
                  refine gh_goto (tgt := 60) dc_X7_as_56 rfl ?_
                  refine gh_istore (L' := [some (vR 32 0), some (vI a0), some (vI a1), some (vI r7), some (vI (nI 1))]) dc_X7_as_60 (by decide) rfl rfl ?_
                  refine gh_iload dc_X7_as_62 rfl ?_
                  refine gh_if_eq (tgt := 75) dc_X7_as_64 rfl (fun h => absurd h (by decide)) (fun _ => ?_)
                  refine gh_aload_n dc_X7_as_67 rfl ?_
                  refine gh_iload_n dc_X7_as_68 rfl ?_
                  refine gh_callVi (mi' := mi_X7_well) (as := [vI a0]) (S := []) (k := 32) (t := 0) dc_X7_as_69 ml_RX7_64 ok_X7_well rfl rfl (by decide) (Nat.le_of_ble_eq_true rfl) (by decide) (by decide) rfl rfl (wk_X7_well _ _ _ hw) (fun r33 M34 hw => ?_)
                  refine gh_goto (tgt := 80) dc_X7_as_72 rfl ?_
                  exact gh_iret dc_X7_as_80 hE rfl hw
    · replace hw := hw.2 c6
      refine gh_ldc (v := (-1000001 : Int32)) dc_X7_as_17 tw_898 ?_
      exact gh_iret dc_X7_as_19 hE rfl hw
theorem wk_X7_begins   (Q : gh_M → Prop) (a0 : Int32) (M : gh_M) (hw : wp_X7_begins  a0 M Q) : gh_Calls 1 mi_X7_begins [vR 32 0, vI a0] M (gh_Qv Q) := by
  refine gh_of (by decide) rfl 0 rfl (L0 := [some (vR 32 0), some (vI a0)]) rfl (fun wd x hE => ?_)
  unfold wp_X7_begins at hw
  refine gh_aload_n dc_X7_begins_0 rfl ?_
  refine gh_getI (k := 32) (t := 0) dc_X7_begins_1 fl_RX7_259 (by decide) (by decide) rfl rfl ?_
  refine gh_bipush (v := (nI 16)) dc_X7_begins_4 gb_16 ?_
  refine gh_icmp_ge (tgt := 29) dc_X7_begins_6 rfl (fun c1 => ?_) (fun c1 => ?_)
  · replace hw := hw.1 c1
    exact gh_vret dc_X7_begins_29 hE rfl hw
  · replace hw := hw.2 c1
    refine gh_aload_n dc_X7_begins_9 rfl ?_
    refine gh_getR (k := 32) (t := 0) dc_X7_begins_10 fl_RX7_34 (by decide) (by decide) rfl rfl ?_
    refine gh_aload_n dc_X7_begins_13 rfl ?_
    refine gh_getI (k := 32) (t := 0) dc_X7_begins_14 fl_RX7_259 (by decide) (by decide) rfl rfl ?_
    refine gh_iload_n dc_X7_begins_17 rfl ?_
    obtain ⟨h2, hw⟩ := hw
    refine gh_iast (k := 41) (t := 0) dc_X7_begins_18 rfl (by decide) (by decide) h2 ?_
    obtain ⟨M3, eM3⟩ : ∃ z, z = (gh_st M 41 0 (M 32 0 15).toNatClampNeg a0) := ⟨_, rfl⟩
    rw [← eM3]
    replace hw := hw _ eM3
    refine gh_aload_n dc_X7_begins_19 rfl ?_
    refine gh_dupR dc_X7_begins_20 ?_
    refine gh_getI (k := 32) (t := 0) dc_X7_begins_21 fl_RX7_259 (by decide) (by decide) rfl rfl ?_
    refine gh_iconst (v := (nI 1)) dc_X7_begins_24 gc_1 ?_
    refine gh_iadd dc_X7_begins_25 ?_
    refine gh_put (k := 32) (t := 0) dc_X7_begins_26 fl_RX7_259 (by decide) (by decide) rfl rfl (fun _ h => by cases h; rfl) rfl rfl ?_
    obtain ⟨M4, eM4⟩ : ∃ z, z = (gh_st M3 32 0 15 ((M3 32 0 15) + (nI 1))) := ⟨_, rfl⟩
    rw [← eM4]
    replace hw := hw _ eM4
    exact gh_vret dc_X7_begins_29 hE rfl hw
theorem wk_X7_body20   (Q : Int32 → gh_M → Prop) (a0 : Int32) (M : gh_M) (hw : wp_X7_body20  a0 M Q) : gh_Calls 2 mi_X7_body20 [vR 32 0, vI a0] M (gh_Qi Q) := by
  refine gh_of (by decide) rfl 0 rfl (L0 := [some (vR 32 0), some (vI a0)]) rfl (fun wd x hE => ?_)
  unfold wp_X7_body20 at hw
  refine gh_aload_n dc_X7_body20_0 rfl ?_
  refine gh_bipush (v := (nI 20)) dc_X7_body20_1 gb_20 ?_
  refine gh_callVv (mi' := mi_X7_begins) (as := [vI (nI 20)]) (S := []) (k := 32) (t := 0) dc_X7_body20_3 ml_RX7_262 ok_X7_begins rfl rfl (by decide) (Nat.le_of_ble_eq_true rfl) (by decide) (by decide) rfl rfl (wk_X7_begins _ _ _ hw) (fun M2 hw => ?_)
  refine gh_iload_n dc_X7_body20_6 rfl ?_
  exact gh_iret dc_X7_body20_7 hE rfl hw
theorem wk_X7_body10   (Q : Int32 → gh_M → Prop) (a0 : Int32) (M : gh_M) (hw : wp_X7_body10  a0 M Q) : gh_Calls 2 mi_X7_body10 [vR 32 0, vI a0] M (gh_Qi Q) := by
  refine gh_of (by decide) rfl 0 rfl (L0 := [some (vR 32 0), some (vI a0)]) rfl (fun wd x hE => ?_)
  unfold wp_X7_body10 at hw
  refine gh_aload_n dc_X7_body10_0 rfl ?_
  refine gh_bipush (v := (nI 10)) dc_X7_body10_1 gb_10 ?_
  refine gh_callVv (mi' := mi_X7_begins) (as := [vI (nI 10)]) (S := []) (k := 32) (t := 0) dc_X7_body10_3 ml_RX7_262 ok_X7_begins rfl rfl (by decide) (Nat.le_of_ble_eq_true rfl) (by decide) (by decide) rfl rfl (wk_X7_begins _ _ _ hw) (fun M2 hw => ?_)
  refine gh_aload_n dc_X7_body10_6 rfl ?_
  refine gh_getR (k := 32) (t := 0) dc_X7_body10_7 fl_RX7_7 (by decide) (by decide) rfl rfl ?_
  refine gh_iconst (v := (nI 0)) dc_X7_body10_10 gc_0 ?_
  refine gh_iload_n dc_X7_body10_11 rfl ?_
  refine gh_callSi (mi' := mi_X7_trickAt) (as := [vI (nI 0), vI a0]) (S := [vR 33 0]) dc_X7_body10_12 ml_RX7_98 ok_X7_trickAt rfl rfl (by decide) (Nat.le_of_ble_eq_true rfl) (wk_X7_trickAt _ _ _ _ hw) (fun r3 M4 hw => ?_)
  refine gh_iconst (v := (nI 2)) dc_X7_body10_15 gc_2 ?_
  refine gh_iadd dc_X7_body10_16 ?_
  obtain ⟨h5, hw⟩ := hw
  refine gh_iald (k := 33) (t := 0) dc_X7_body10_17 rfl (by decide) (by decide) h5 ?_
  exact gh_iret dc_X7_body10_18 hE rfl hw
theorem wk_X7_body21   (Q : Int32 → gh_M → Prop) (a0 : Int32) (M : gh_M) (hw : wp_X7_body21  a0 M Q) : gh_Calls 3 mi_X7_body21 [vR 32 0, vI a0] M (gh_Qi Q) := by
  refine gh_of (by decide) rfl 0 rfl (L0 := [some (vR 32 0), some (vI a0)]) rfl (fun wd x hE => ?_)
  unfold wp_X7_body21 at hw
  refine gh_aload_n dc_X7_body21_0 rfl ?_
  refine gh_bipush (v := (nI 21)) dc_X7_body21_1 gb_21 ?_
  refine gh_callVv (mi' := mi_X7_begins) (as := [vI (nI 21)]) (S := []) (k := 32) (t := 0) dc_X7_body21_3 ml_RX7_262 ok_X7_begins rfl rfl (by decide) (Nat.le_of_ble_eq_true rfl) (by decide) (by decide) rfl rfl (wk_X7_begins _ _ _ hw) (fun M2 hw => ?_)
  refine gh_aload_n dc_X7_body21_6 rfl ?_
  refine gh_iload_n dc_X7_body21_7 rfl ?_
  refine gh_callVi (mi' := mi_X7_body20) (as := [vI a0]) (S := []) (k := 32) (t := 0) dc_X7_body21_8 ml_RX7_277 ok_X7_body20 rfl rfl (by decide) (Nat.le_of_ble_eq_true rfl) (by decide) (by decide) rfl rfl (wk_X7_body20 _ _ _ hw) (fun r3 M4 hw => ?_)
  refine gh_aload_n dc_X7_body21_11 rfl ?_
  refine gh_iload_n dc_X7_body21_12 rfl ?_
  refine gh_callVi (mi' := mi_X7_metOf) (as := [vI a0]) (S := [vI r3]) (k := 32) (t := 0) dc_X7_body21_13 ml_RX7_228 ok_X7_metOf rfl rfl (by decide) (Nat.le_of_ble_eq_true rfl) (by decide) (by decide) rfl rfl (wk_X7_metOf _ _ _ hw) (fun r5 M6 hw => ?_)
  refine gh_iadd dc_X7_body21_16 ?_
  exact gh_iret dc_X7_body21_17 hE rfl hw
theorem wk_X7_markOfBones   (Q : Int32 → gh_M → Prop) (a0 : Int32) (M : gh_M) (hw : wp_X7_markOfBones  a0 M Q) : gh_Calls 4 mi_X7_markOfBones [vR 32 0, vI a0] M (gh_Qi Q) := by
  refine gh_of (by decide) rfl 0 rfl (L0 := [some (vR 32 0), some (vI a0)]) rfl (fun wd x hE => ?_)
  unfold wp_X7_markOfBones at hw
  refine gh_aload_n dc_X7_markOfBones_0 rfl ?_
  refine gh_iload_n dc_X7_markOfBones_1 rfl ?_
  refine gh_callVi (mi' := mi_X7_kindAt) (as := [vI a0]) (S := []) (k := 32) (t := 0) dc_X7_markOfBones_2 ml_RX7_256 ok_X7_kindAt rfl rfl (by decide) (Nat.le_of_ble_eq_true rfl) (by decide) (by decide) rfl rfl (wk_X7_kindAt _ _ _ hw) (fun r1 M2 hw => ?_)
  refine (Decidable.em (r1 = (nI 2))).elim (fun c3 => ?_) (fun c3 => ?_)
  · replace hw := hw.1 c3
    refine gh_lookup (tgt := 32) dc_X7_markOfBones_5 (by decide) (by rw [c3]; try rfl) rfl ?_
    refine gh_aload_n dc_X7_markOfBones_32 rfl ?_
    refine gh_bipush (v := (nI 24)) dc_X7_markOfBones_33 gb_24 ?_
    refine gh_callVv (mi' := mi_X7_begins) (as := [vI (nI 24)]) (S := []) (k := 32) (t := 0) dc_X7_markOfBones_35 ml_RX7_262 ok_X7_begins rfl rfl (by decide) (Nat.le_of_ble_eq_true rfl) (by decide) (by decide) rfl rfl (wk_X7_begins _ _ _ hw) (fun M5 hw => ?_)
    refine gh_iconst (v := (nI 2)) dc_X7_markOfBones_38 gc_2 ?_
    refine gh_aload_n dc_X7_markOfBones_39 rfl ?_
    refine gh_iload_n dc_X7_markOfBones_40 rfl ?_
    refine gh_callVi (mi' := mi_X7_body21) (as := [vI a0]) (S := [vI (nI 2)]) (k := 32) (t := 0) dc_X7_markOfBones_41 ml_RX7_280 ok_X7_body21 rfl rfl (by decide) (Nat.le_of_ble_eq_true rfl) (by decide) (by decide) rfl rfl (wk_X7_body21 _ _ _ hw) (fun r6 M7 hw => ?_)
    refine gh_imul dc_X7_markOfBones_44 ?_
    exact gh_iret dc_X7_markOfBones_45 hE rfl hw
  · replace hw := hw.2 c3
    refine (Decidable.em (r1 = (nI 3))).elim (fun c8 => ?_) (fun c8 => ?_)
    · replace hw := hw.1 c8
      refine gh_lookup (tgt := 46) dc_X7_markOfBones_5 (by decide) (by rw [c8]; try rfl) rfl ?_
      refine gh_aload_n dc_X7_markOfBones_46 rfl ?_
      refine gh_bipush (v := (nI 22)) dc_X7_markOfBones_47 gb_22 ?_
      refine gh_callVv (mi' := mi_X7_begins) (as := [vI (nI 22)]) (S := []) (k := 32) (t := 0) dc_X7_markOfBones_49 ml_RX7_262 ok_X7_begins rfl rfl (by decide) (Nat.le_of_ble_eq_true rfl) (by decide) (by decide) rfl rfl (wk_X7_begins _ _ _ hw) (fun M10 hw => ?_)
      refine gh_aload_n dc_X7_markOfBones_52 rfl ?_
      refine gh_iload_n dc_X7_markOfBones_53 rfl ?_
      refine gh_callVi (mi' := mi_X7_body21) (as := [vI a0]) (S := []) (k := 32) (t := 0) dc_X7_markOfBones_54 ml_RX7_280 ok_X7_body21 rfl rfl (by decide) (Nat.le_of_ble_eq_true rfl) (by decide) (by decide) rfl rfl (wk_X7_body21 _ _ _ hw) (fun r11 M12 hw => ?_)
      refine gh_sipush (v := (nI 1000)) dc_X7_markOfBones_57 gs_1000 ?_
      refine gh_isub dc_X7_markOfBones_60 ?_
      exact gh_iret dc_X7_markOfBones_61 hE rfl hw
    · replace hw := hw.2 c8
      refine gh_lookup (tgt := 62) dc_X7_markOfBones_5 (by decide) ((lv_osw c3 (by decide)).trans ((lv_osw c8 (by decide)).trans (rfl))) rfl ?_
      refine gh_aload_n dc_X7_markOfBones_62 rfl ?_
      refine gh_iload_n dc_X7_markOfBones_63 rfl ?_
      refine gh_callVi (mi' := mi_X7_body21) (as := [vI a0]) (S := []) (k := 32) (t := 0) dc_X7_markOfBones_64 ml_RX7_280 ok_X7_body21 rfl rfl (by decide) (Nat.le_of_ble_eq_true rfl) (by decide) (by decide) rfl rfl (wk_X7_body21 _ _ _ hw) (fun r13 M14 hw => ?_)
      exact gh_iret dc_X7_markOfBones_67 hE rfl hw
theorem wk_X7_body11   (Q : Int32 → gh_M → Prop) (a0 : Int32) (M : gh_M) (hw : wp_X7_body11  a0 M Q) : gh_Calls 5 mi_X7_body11 [vR 32 0, vI a0] M (gh_Qi Q) := by
  refine gh_of (by decide) rfl 1 rfl (L0 := [some (vR 32 0), some (vI a0), none]) rfl (fun wd x hE => ?_)
  unfold wp_X7_body11 at hw
  refine gh_aload_n dc_X7_body11_0 rfl ?_
  refine gh_bipush (v := (nI 11)) dc_X7_body11_1 gb_11 ?_
  refine gh_callVv (mi' := mi_X7_begins) (as := [vI (nI 11)]) (S := []) (k := 32) (t := 0) dc_X7_body11_3 ml_RX7_262 ok_X7_begins rfl rfl (by decide) (Nat.le_of_ble_eq_true rfl) (by decide) (by decide) rfl rfl (wk_X7_begins _ _ _ hw) (fun M2 hw => ?_)
  refine gh_aload_n dc_X7_body11_6 rfl ?_
  refine gh_iload_n dc_X7_body11_7 rfl ?_
  refine gh_callVi (mi' := mi_X7_body10) (as := [vI a0]) (S := []) (k := 32) (t := 0) dc_X7_body11_8 ml_RX7_265 ok_X7_body10 rfl rfl (by decide) (Nat.le_of_ble_eq_true rfl) (by decide) (by decide) rfl rfl (wk_X7_body10 _ _ _ hw) (fun r3 M4 hw => ?_)
  refine gh_istore_n (L' := [some (vR 32 0), some (vI a0), some (vI r3)]) dc_X7_body11_11 (by decide) rfl rfl ?_
  refine gh_iload_n dc_X7_body11_12 rfl ?_
  refine gh_aload_n dc_X7_body11_13 rfl ?_
  refine gh_iload_n dc_X7_body11_14 rfl ?_
  refine gh_callVi (mi' := mi_X7_markOfBones) (as := [vI a0]) (S := [vI r3]) (k := 32) (t := 0) dc_X7_body11_15 ml_RX7_268 ok_X7_markOfBones rfl rfl (by decide) (Nat.le_of_ble_eq_true rfl) (by decide) (by decide) rfl rfl (wk_X7_markOfBones _ _ _ hw) (fun r5 M6 hw => ?_)
  refine gh_iadd dc_X7_body11_18 ?_
  exact gh_iret dc_X7_body11_19 hE rfl hw
theorem wk_X7_body13   (Q : Int32 → gh_M → Prop) (a0 : Int32) (M : gh_M) (hw : wp_X7_body13  a0 M Q) : gh_Calls 3 mi_X7_body13 [vR 32 0, vI a0] M (gh_Qi Q) := by
  refine gh_of (by decide) rfl 0 rfl (L0 := [some (vR 32 0), some (vI a0)]) rfl (fun wd x hE => ?_)
  unfold wp_X7_body13 at hw
  refine gh_aload_n dc_X7_body13_0 rfl ?_
  refine gh_bipush (v := (nI 13)) dc_X7_body13_1 gb_13 ?_
  refine gh_callVv (mi' := mi_X7_begins) (as := [vI (nI 13)]) (S := []) (k := 32) (t := 0) dc_X7_body13_3 ml_RX7_262 ok_X7_begins rfl rfl (by decide) (Nat.le_of_ble_eq_true rfl) (by decide) (by decide) rfl rfl (wk_X7_begins _ _ _ hw) (fun M2 hw => ?_)
  refine gh_aload_n dc_X7_body13_6 rfl ?_
  refine gh_iload_n dc_X7_body13_7 rfl ?_
  refine gh_callVi (mi' := mi_X7_body10) (as := [vI a0]) (S := []) (k := 32) (t := 0) dc_X7_body13_8 ml_RX7_265 ok_X7_body10 rfl rfl (by decide) (Nat.le_of_ble_eq_true rfl) (by decide) (by decide) rfl rfl (wk_X7_body10 _ _ _ hw) (fun r3 M4 hw => ?_)
  refine gh_bipush (v := (nI 100)) dc_X7_body13_11 gb_100 ?_
  refine gh_isub dc_X7_body13_13 ?_
  exact gh_iret dc_X7_body13_14 hE rfl hw
theorem wk_X7_sizeOf   (Q : Int32 → gh_M → Prop) (a0 : Int32) (M : gh_M) (hw : wp_X7_sizeOf  a0 M Q) : gh_Calls 6 mi_X7_sizeOf [vR 32 0, vI a0] M (gh_Qi Q) := by
  refine gh_of (by decide) rfl 0 rfl (L0 := [some (vR 32 0), some (vI a0)]) rfl (fun wd x hE => ?_)
  unfold wp_X7_sizeOf at hw
  refine gh_aload_n dc_X7_sizeOf_0 rfl ?_
  refine gh_iload_n dc_X7_sizeOf_1 rfl ?_
  refine gh_callVi (mi' := mi_X7_kindAt) (as := [vI a0]) (S := []) (k := 32) (t := 0) dc_X7_sizeOf_2 ml_RX7_256 ok_X7_kindAt rfl rfl (by decide) (Nat.le_of_ble_eq_true rfl) (by decide) (by decide) rfl rfl (wk_X7_kindAt _ _ _ hw) (fun r1 M2 hw => ?_)
  refine (Decidable.em (r1 = (nI 2))).elim (fun c3 => ?_) (fun c3 => ?_)
  · replace hw := hw.1 c3
    refine gh_tabIn (v := (nI 2)) (tgt := 36) dc_X7_sizeOf_5 c3 (by decide) (by decide) rfl rfl ?_
    refine gh_aload_n dc_X7_sizeOf_36 rfl ?_
    refine gh_bipush (v := (nI 12)) dc_X7_sizeOf_37 gb_12 ?_
    refine gh_callVv (mi' := mi_X7_begins) (as := [vI (nI 12)]) (S := []) (k := 32) (t := 0) dc_X7_sizeOf_39 ml_RX7_262 ok_X7_begins rfl rfl (by decide) (Nat.le_of_ble_eq_true rfl) (by decide) (by decide) rfl rfl (wk_X7_begins _ _ _ hw) (fun M5 hw => ?_)
    refine gh_aload_n dc_X7_sizeOf_42 rfl ?_
    refine gh_iload_n dc_X7_sizeOf_43 rfl ?_
    refine gh_callVi (mi' := mi_X7_body11) (as := [vI a0]) (S := []) (k := 32) (t := 0) dc_X7_sizeOf_44 ml_RX7_271 ok_X7_body11 rfl rfl (by decide) (Nat.le_of_ble_eq_true rfl) (by decide) (by decide) rfl rfl (wk_X7_body11 _ _ _ hw) (fun r6 M7 hw => ?_)
    refine gh_ineg dc_X7_sizeOf_47 ?_
    exact gh_iret dc_X7_sizeOf_48 hE rfl hw
  · replace hw := hw.2 c3
    refine (Decidable.em (r1 = (nI 3))).elim (fun c8 => ?_) (fun c8 => ?_)
    · replace hw := hw.1 c8
      refine gh_tabIn (v := (nI 3)) (tgt := 69) dc_X7_sizeOf_5 c8 (by decide) (by decide) rfl rfl ?_
      refine gh_aload_n dc_X7_sizeOf_69 rfl ?_
      refine gh_iload_n dc_X7_sizeOf_70 rfl ?_
      refine gh_callVi (mi' := mi_X7_body11) (as := [vI a0]) (S := []) (k := 32) (t := 0) dc_X7_sizeOf_71 ml_RX7_271 ok_X7_body11 rfl rfl (by decide) (Nat.le_of_ble_eq_true rfl) (by decide) (by decide) rfl rfl (wk_X7_body11 _ _ _ hw) (fun r9 M10 hw => ?_)
      exact gh_iret dc_X7_sizeOf_74 hE rfl hw
    · replace hw := hw.2 c8
      refine (Decidable.em (r1 = (nI 4))).elim (fun c11 => ?_) (fun c11 => ?_)
      · replace hw := hw.1 c11
        refine gh_tabIn (v := (nI 4)) (tgt := 49) dc_X7_sizeOf_5 c11 (by decide) (by decide) rfl rfl ?_
        refine gh_aload_n dc_X7_sizeOf_49 rfl ?_
        refine gh_iload_n dc_X7_sizeOf_50 rfl ?_
        refine gh_callVi (mi' := mi_X7_body13) (as := [vI a0]) (S := []) (k := 32) (t := 0) dc_X7_sizeOf_51 ml_RX7_274 ok_X7_body13 rfl rfl (by decide) (Nat.le_of_ble_eq_true rfl) (by decide) (by decide) rfl rfl (wk_X7_body13 _ _ _ hw) (fun r12 M13 hw => ?_)
        exact gh_iret dc_X7_sizeOf_54 hE rfl hw
      · replace hw := hw.2 c11
        refine (Decidable.em (r1 = (nI 5))).elim (fun c14 => ?_) (fun c14 => ?_)
        · replace hw := hw.1 c14
          refine gh_tabIn (v := (nI 5)) (tgt := 55) dc_X7_sizeOf_5 c14 (by decide) (by decide) rfl rfl ?_
          refine gh_aload_n dc_X7_sizeOf_55 rfl ?_
          refine gh_bipush (v := (nI 14)) dc_X7_sizeOf_56 gb_14 ?_
          refine gh_callVv (mi' := mi_X7_begins) (as := [vI (nI 14)]) (S := []) (k := 32) (t := 0) dc_X7_sizeOf_58 ml_RX7_262 ok_X7_begins rfl rfl (by decide) (Nat.le_of_ble_eq_true rfl) (by decide) (by decide) rfl rfl (wk_X7_begins _ _ _ hw) (fun M16 hw => ?_)
          refine gh_iconst (v := (nI 2)) dc_X7_sizeOf_61 gc_2 ?_
          refine gh_aload_n dc_X7_sizeOf_62 rfl ?_
          refine gh_iload_n dc_X7_sizeOf_63 rfl ?_
          refine gh_callVi (mi' := mi_X7_body13) (as := [vI a0]) (S := [vI (nI 2)]) (k := 32) (t := 0) dc_X7_sizeOf_64 ml_RX7_274 ok_X7_body13 rfl rfl (by decide) (Nat.le_of_ble_eq_true rfl) (by decide) (by decide) rfl rfl (wk_X7_body13 _ _ _ hw) (fun r17 M18 hw => ?_)
          refine gh_imul dc_X7_sizeOf_67 ?_
          exact gh_iret dc_X7_sizeOf_68 hE rfl hw
        · replace hw := hw.2 c14
          have q0 := lv_neT c3 (a := 2) (by decide)
          have q1 := lv_neT c8 (a := 3) (by decide)
          have q2 := lv_neT c11 (a := 4) (by decide)
          have q3 := lv_neT c14 (a := 5) (by decide)
          refine gh_tabOut (tgt := 69) dc_X7_sizeOf_5 (by omega) rfl ?_
          refine gh_aload_n dc_X7_sizeOf_69 rfl ?_
          refine gh_iload_n dc_X7_sizeOf_70 rfl ?_
          refine gh_callVi (mi' := mi_X7_body11) (as := [vI a0]) (S := []) (k := 32) (t := 0) dc_X7_sizeOf_71 ml_RX7_271 ok_X7_body11 rfl rfl (by decide) (Nat.le_of_ble_eq_true rfl) (by decide) (by decide) rfl rfl (wk_X7_body11 _ _ _ hw) (fun r19 M20 hw => ?_)
          exact gh_iret dc_X7_sizeOf_74 hE rfl hw
theorem wk_X7_markOf   (Q : Int32 → gh_M → Prop) (a0 : Int32) (M : gh_M) (hw : wp_X7_markOf  a0 M Q) : gh_Calls 7 mi_X7_markOf [vR 32 0, vI a0] M (gh_Qi Q) := by
  refine gh_of (by decide) rfl 1 rfl (L0 := [some (vR 32 0), some (vI a0), none]) rfl (fun wd x hE => ?_)
  unfold wp_X7_markOf at hw
  refine gh_aload_n dc_X7_markOf_0 rfl ?_
  refine gh_iload_n dc_X7_markOf_1 rfl ?_
  refine gh_callVi (mi' := mi_X7_kindAt) (as := [vI a0]) (S := []) (k := 32) (t := 0) dc_X7_markOf_2 ml_RX7_256 ok_X7_kindAt rfl rfl (by decide) (Nat.le_of_ble_eq_true rfl) (by decide) (by decide) rfl rfl (wk_X7_kindAt _ _ _ hw) (fun r1 M2 hw => ?_)
  refine gh_iconst (v := (nI 4)) dc_X7_markOf_5 gc_4 ?_
  refine gh_icmp_ge (tgt := 15) dc_X7_markOf_6 rfl (fun c3 => ?_) (fun c3 => ?_)
  · replace hw := hw.1 c3
    refine gh_aload_n dc_X7_markOf_15 rfl ?_
    refine gh_bipush (v := (nI 23)) dc_X7_markOf_16 gb_23 ?_
    refine gh_callVv (mi' := mi_X7_begins) (as := [vI (nI 23)]) (S := []) (k := 32) (t := 0) dc_X7_markOf_18 ml_RX7_262 ok_X7_begins rfl rfl (by decide) (Nat.le_of_ble_eq_true rfl) (by decide) (by decide) rfl rfl (wk_X7_begins _ _ _ hw) (fun M5 hw => ?_)
    refine gh_aload_n dc_X7_markOf_21 rfl ?_
    refine gh_iload_n dc_X7_markOf_22 rfl ?_
    refine gh_callVi (mi' := mi_X7_body20) (as := [vI a0]) (S := []) (k := 32) (t := 0) dc_X7_markOf_23 ml_RX7_277 ok_X7_body20 rfl rfl (by decide) (Nat.le_of_ble_eq_true rfl) (by decide) (by decide) rfl rfl (wk_X7_body20 _ _ _ hw) (fun r6 M7 hw => ?_)
    refine gh_istore_n (L' := [some (vR 32 0), some (vI a0), some (vI r6)]) dc_X7_markOf_26 (by decide) rfl rfl ?_
    refine gh_iload_n dc_X7_markOf_27 rfl ?_
    refine gh_aload_n dc_X7_markOf_28 rfl ?_
    refine gh_iload_n dc_X7_markOf_29 rfl ?_
    refine gh_callVi (mi' := mi_X7_sizeOf) (as := [vI a0]) (S := [vI r6]) (k := 32) (t := 0) dc_X7_markOf_30 ml_RX7_283 ok_X7_sizeOf rfl rfl (by decide) (Nat.le_of_ble_eq_true rfl) (by decide) (by decide) rfl rfl (wk_X7_sizeOf _ _ _ hw) (fun r8 M9 hw => ?_)
    refine gh_isub dc_X7_markOf_33 ?_
    exact gh_iret dc_X7_markOf_34 hE rfl hw
  · replace hw := hw.2 c3
    refine gh_aload_n dc_X7_markOf_9 rfl ?_
    refine gh_iload_n dc_X7_markOf_10 rfl ?_
    refine gh_callVi (mi' := mi_X7_markOfBones) (as := [vI a0]) (S := []) (k := 32) (t := 0) dc_X7_markOf_11 ml_RX7_268 ok_X7_markOfBones rfl rfl (by decide) (Nat.le_of_ble_eq_true rfl) (by decide) (by decide) rfl rfl (wk_X7_markOfBones _ _ _ hw) (fun r10 M11 hw => ?_)
    exact gh_iret dc_X7_markOf_14 hE rfl hw
theorem wk_X7_ask   (Q : Int32 → gh_M → Prop) (a0 : Int32) (a1 : Int32) (M : gh_M) (hw : wp_X7_ask  a0 a1 M Q) : gh_Calls 8 mi_X7_ask [vR 32 0, vI a0, vI a1] M (gh_Qi Q) := by
  refine gh_of (by decide) rfl 0 rfl (L0 := [some (vR 32 0), some (vI a0), some (vI a1)]) rfl (fun wd x hE => ?_)
  unfold wp_X7_ask at hw
  refine gh_aload_n dc_X7_ask_0 rfl ?_
  refine gh_iload_n dc_X7_ask_1 rfl ?_
  refine gh_callVi (mi' := mi_X7_isTrick) (as := [vI a0]) (S := []) (k := 32) (t := 0) dc_X7_ask_2 ml_RX7_174 ok_X7_isTrick rfl rfl (by decide) (Nat.le_of_ble_eq_true rfl) (by decide) (by decide) rfl rfl (wk_X7_isTrick _ _ _ hw) (fun r1 M2 hw => ?_)
  refine gh_if_eq (tgt := 17) dc_X7_ask_5 rfl (fun c3 => ?_) (fun c3 => ?_)
  · replace hw := hw.1 c3
    refine gh_ldc (v := (-1000001 : Int32)) dc_X7_ask_17 tw_898 ?_
    exact gh_iret dc_X7_ask_19 hE rfl hw
  · replace hw := hw.2 c3
    refine gh_iload_n dc_X7_ask_8 rfl ?_
    refine gh_iconst (v := (nI 0)) dc_X7_ask_9 gc_0 ?_
    refine gh_iconst (v := (nI 1)) dc_X7_ask_10 gc_1 ?_
    refine gh_callSi (mi' := mi_X7_in) (as := [vI a1, vI (nI 0), vI (nI 1)]) (S := []) dc_X7_ask_11 ml_RX7_51 ok_X7_in rfl rfl (by decide) (Nat.le_of_ble_eq_true rfl) (wk_X7_in _ _ _ _ _ hw) (fun r4 M5 hw => ?_)
    refine gh_if_ne (tgt := 20) dc_X7_ask_14 rfl (fun c6 => ?_) (fun c6 => ?_)
    · replace hw := hw.1 c6
      refine gh_aload_n dc_X7_ask_20 rfl ?_
      refine gh_iconst (v := (nI 0)) dc_X7_ask_21 gc_0 ?_
      refine gh_put (k := 32) (t := 0) dc_X7_ask_22 fl_RX7_259 (by decide) (by decide) rfl rfl (fun _ h => by cases h; rfl) rfl rfl ?_
      obtain ⟨M7, eM7⟩ : ∃ z, z = (gh_st M5 32 0 15 (nI 0)) := ⟨_, rfl⟩
      rw [← eM7]
      replace hw := hw _ eM7
      refine gh_iload_n dc_X7_ask_25 rfl ?_
      refine gh_if_ne (tgt := 37) dc_X7_ask_26 rfl (fun c8 => ?_) (fun c8 => ?_)
      · replace hw := hw.1 c8
        refine gh_aload_n dc_X7_ask_37 rfl ?_
        refine gh_iload_n dc_X7_ask_38 rfl ?_
        refine gh_callVi (mi' := mi_X7_markOf) (as := [vI a0]) (S := []) (k := 32) (t := 0) dc_X7_ask_39 ml_RX7_286 ok_X7_markOf rfl rfl (by decide) (Nat.le_of_ble_eq_true rfl) (by decide) (by decide) rfl rfl (wk_X7_markOf _ _ _ hw) (fun r9 M10 hw => ?_)
        exact gh_iret dc_X7_ask_42 hE rfl hw
      · replace hw := hw.2 c8
        refine gh_aload_n dc_X7_ask_29 rfl ?_
        refine gh_iload_n dc_X7_ask_30 rfl ?_
        refine gh_callVi (mi' := mi_X7_sizeOf) (as := [vI a0]) (S := []) (k := 32) (t := 0) dc_X7_ask_31 ml_RX7_283 ok_X7_sizeOf rfl rfl (by decide) (Nat.le_of_ble_eq_true rfl) (by decide) (by decide) rfl rfl (wk_X7_sizeOf _ _ _ hw) (fun r11 M12 hw => ?_)
        refine gh_goto (tgt := 42) dc_X7_ask_34 rfl ?_
        exact gh_iret dc_X7_ask_42 hE rfl hw
    · replace hw := hw.2 c6
      refine gh_ldc (v := (-1000001 : Int32)) dc_X7_ask_17 tw_898 ?_
      exact gh_iret dc_X7_ask_19 hE rfl hw
theorem wk_X7_trace   (Q : Int32 → gh_M → Prop) (a0 : Int32) (M : gh_M) (hw : wp_X7_trace  a0 M Q) : gh_Calls 2 mi_X7_trace [vR 32 0, vI a0] M (gh_Qi Q) := by
  refine gh_of (by decide) rfl 0 rfl (L0 := [some (vR 32 0), some (vI a0)]) rfl (fun wd x hE => ?_)
  unfold wp_X7_trace at hw
  refine gh_iload_n dc_X7_trace_0 rfl ?_
  refine gh_iconst (v := (nI 0)) dc_X7_trace_1 gc_0 ?_
  refine gh_aload_n dc_X7_trace_2 rfl ?_
  refine gh_getI (k := 32) (t := 0) dc_X7_trace_3 fl_RX7_259 (by decide) (by decide) rfl rfl ?_
  refine gh_iconst (v := (nI 1)) dc_X7_trace_6 gc_1 ?_
  refine gh_isub dc_X7_trace_7 ?_
  refine gh_callSi (mi' := mi_X7_in) (as := [vI a0, vI (nI 0), vI ((M 32 0 15) - (nI 1))]) (S := []) dc_X7_trace_8 ml_RX7_51 ok_X7_in rfl rfl (by decide) (Nat.le_of_ble_eq_true rfl) (wk_X7_in _ _ _ _ _ hw) (fun r1 M2 hw => ?_)
  refine gh_if_eq (tgt := 23) dc_X7_trace_11 rfl (fun c3 => ?_) (fun c3 => ?_)
  · replace hw := hw.1 c3
    refine gh_ldc (v := (-1000000 : Int32)) dc_X7_trace_23 tw_1016 ?_
    exact gh_iret dc_X7_trace_25 hE rfl hw
  · replace hw := hw.2 c3
    refine gh_aload_n dc_X7_trace_14 rfl ?_
    refine gh_getR (k := 32) (t := 0) dc_X7_trace_15 fl_RX7_34 (by decide) (by decide) rfl rfl ?_
    refine gh_iload_n dc_X7_trace_18 rfl ?_
    obtain ⟨h4, hw⟩ := hw
    refine gh_iald (k := 41) (t := 0) dc_X7_trace_19 rfl (by decide) (by decide) h4 ?_
    refine gh_goto (tgt := 25) dc_X7_trace_20 rfl ?_
    exact gh_iret dc_X7_trace_25 hE rfl hw
theorem lk_X7_rowMany_4 {wd : gh_Wd} {x : gh_X} {Q : Int32 → gh_M → Prop}   (hE : gh_E wd (gh_Qi Q) x)   : ∀ (n : Nat) (x1 : Int32) (x2 : Int32) (M : gh_M), wl_X7_rowMany_4 Q n x1 x2 M → gh_J mi_X7_rowMany 1 wd x M 4 [some (vR 32 0), some (vI x1), some (vI x2)] [] := by
  intro n
  induction n with
  | zero => intro x1 x2 M hw; exact hw.elim
  | succ n ih =>
    intro x1 x2 M hw
    unfold wl_X7_rowMany_4 at hw
    refine gh_iload_n dc_X7_rowMany_4 rfl ?_
    refine gh_bipush (v := (nI 8)) dc_X7_rowMany_5 gb_8 ?_
    refine gh_icmp_ge (tgt := 33) dc_X7_rowMany_7 rfl (fun c1 => ?_) (fun c1 => ?_)
    · replace hw := hw.1 c1
      refine gh_iload_n dc_X7_rowMany_33 rfl ?_
      exact gh_iret dc_X7_rowMany_34 hE rfl hw
    · replace hw := hw.2 c1
      refine gh_iload_n dc_X7_rowMany_10 rfl ?_
      refine gh_aload_n dc_X7_rowMany_11 rfl ?_
      refine gh_getR (k := 32) (t := 0) dc_X7_rowMany_12 fl_RX7_31 (by decide) (by decide) rfl rfl ?_
      refine gh_iload_n dc_X7_rowMany_15 rfl ?_
      obtain ⟨h2, hw⟩ := hw
      refine gh_iald (k := 40) (t := 0) dc_X7_rowMany_16 rfl (by decide) (by decide) h2 ?_
      refine gh_if_ge (tgt := 24) dc_X7_rowMany_17 rfl (fun c3 => ?_) (fun c3 => ?_)
      · replace hw := hw.1 c3
        refine gh_iconst (v := (nI 1)) dc_X7_rowMany_24 gc_1 ?_
        refine gh_iadd dc_X7_rowMany_25 ?_
        obtain ⟨y1_4, ey1_4⟩ : ∃ z, z = (x1 + (nI 1)) := ⟨_, rfl⟩
        rw [← ey1_4]
        replace hw := hw _ ey1_4
        refine gh_istore_n (L' := [some (vR 32 0), some (vI y1_4), some (vI x2)]) dc_X7_rowMany_26 (by decide) rfl rfl ?_
        obtain ⟨y2_5, ey2_5⟩ : ∃ z, z = (x2 + (nI 1)) := ⟨_, rfl⟩
        replace hw := hw _ ey2_5
        refine gh_iinc (v := y2_5) (L' := [some (vR 32 0), some (vI y1_4), some (vI y2_5)]) dc_X7_rowMany_27 rfl ((congrArg (fun z => x2 + z) gc_1).trans ey2_5.symm) (by decide) rfl rfl ?_
        refine gh_goto (tgt := 4) dc_X7_rowMany_30 rfl ?_
        refine gh_drop (pc' := 0) [some (vR 32 0), some (vI y1_4), some (vI y2_5)] ⟨rfl, rfl, rfl, trivial⟩ ?_
        exact ih _ _ _ hw
      · replace hw := hw.2 c3
        refine gh_iconst (v := (nI 0)) dc_X7_rowMany_20 gc_0 ?_
        refine gh_goto (tgt := 25) dc_X7_rowMany_21 rfl ?_
        refine gh_iadd dc_X7_rowMany_25 ?_
        obtain ⟨y1_6, ey1_6⟩ : ∃ z, z = (x1 + (nI 0)) := ⟨_, rfl⟩
        rw [← ey1_6]
        replace hw := hw _ ey1_6
        refine gh_istore_n (L' := [some (vR 32 0), some (vI y1_6), some (vI x2)]) dc_X7_rowMany_26 (by decide) rfl rfl ?_
        obtain ⟨y2_7, ey2_7⟩ : ∃ z, z = (x2 + (nI 1)) := ⟨_, rfl⟩
        replace hw := hw _ ey2_7
        refine gh_iinc (v := y2_7) (L' := [some (vR 32 0), some (vI y1_6), some (vI y2_7)]) dc_X7_rowMany_27 rfl ((congrArg (fun z => x2 + z) gc_1).trans ey2_7.symm) (by decide) rfl rfl ?_
        refine gh_goto (tgt := 4) dc_X7_rowMany_30 rfl ?_
        refine gh_drop (pc' := 0) [some (vR 32 0), some (vI y1_6), some (vI y2_7)] ⟨rfl, rfl, rfl, trivial⟩ ?_
        exact ih _ _ _ hw
theorem wk_X7_rowMany   (Q : Int32 → gh_M → Prop)  (M : gh_M) (hw : wp_X7_rowMany   M Q) : gh_Calls 1 mi_X7_rowMany [vR 32 0] M (gh_Qi Q) := by
  refine gh_of (by decide) rfl 2 rfl (L0 := [some (vR 32 0), none, none]) rfl (fun wd x hE => ?_)
  unfold wp_X7_rowMany at hw
  refine gh_iconst (v := (nI 0)) dc_X7_rowMany_0 gc_0 ?_
  refine gh_istore_n (L' := [some (vR 32 0), some (vI (nI 0)), none]) dc_X7_rowMany_1 (by decide) rfl rfl ?_
  refine gh_iconst (v := (nI 0)) dc_X7_rowMany_2 gc_0 ?_
  refine gh_istore_n (L' := [some (vR 32 0), some (vI (nI 0)), some (vI (nI 0))]) dc_X7_rowMany_3 (by decide) rfl rfl ?_
  refine gh_drop (pc' := 0) [some (vR 32 0), some (vI (nI 0)), some (vI (nI 0))] ⟨rfl, rfl, rfl, trivial⟩ ?_
  obtain ⟨k, hw⟩ := hw
  exact lk_X7_rowMany_4  hE  k _ _ _ hw
theorem wk_X7_count   (Q : Int32 → gh_M → Prop) (a0 : Int32) (M : gh_M) (hw : wp_X7_count  a0 M Q) : gh_Calls 3 mi_X7_count [vR 32 0, vI a0] M (gh_Qi Q) := by
  refine gh_of (by decide) rfl 0 rfl (L0 := [some (vR 32 0), some (vI a0)]) rfl (fun wd x hE => ?_)
  unfold wp_X7_count at hw
  refine gh_iload_n dc_X7_count_0 rfl ?_
  refine (Decidable.em (a0 = (nI 0))).elim (fun c1 => ?_) (fun c1 => ?_)
  · replace hw := hw.1 c1
    refine gh_tabIn (v := (nI 0)) (tgt := 52) dc_X7_count_1 c1 (by decide) (by decide) rfl rfl ?_
    refine gh_aload_n dc_X7_count_52 rfl ?_
    refine gh_callVi (mi' := mi_X7_rowMany) (as := []) (S := []) (k := 32) (t := 0) dc_X7_count_53 ml_RX7_289 ok_X7_rowMany rfl rfl (by decide) (Nat.le_of_ble_eq_true rfl) (by decide) (by decide) rfl rfl (wk_X7_rowMany _ _ hw) (fun r2 M3 hw => ?_)
    exact gh_iret dc_X7_count_56 hE rfl hw
  · replace hw := hw.2 c1
    refine (Decidable.em (a0 = (nI 1))).elim (fun c4 => ?_) (fun c4 => ?_)
    · replace hw := hw.1 c4
      refine gh_tabIn (v := (nI 1)) (tgt := 57) dc_X7_count_1 c4 (by decide) (by decide) rfl rfl ?_
      refine gh_aload_n dc_X7_count_57 rfl ?_
      refine gh_getR (k := 32) (t := 0) dc_X7_count_58 fl_RX7_7 (by decide) (by decide) rfl rfl ?_
      refine gh_iconst (v := (nI 1)) dc_X7_count_61 gc_1 ?_
      obtain ⟨h5, hw⟩ := hw
      refine gh_iald (k := 33) (t := 0) dc_X7_count_62 rfl (by decide) (by decide) h5 ?_
      exact gh_iret dc_X7_count_63 hE rfl hw
    · replace hw := hw.2 c4
      refine (Decidable.em (a0 = (nI 2))).elim (fun c6 => ?_) (fun c6 => ?_)
      · replace hw := hw.1 c6
        refine gh_tabIn (v := (nI 2)) (tgt := 64) dc_X7_count_1 c6 (by decide) (by decide) rfl rfl ?_
        refine gh_aload_n dc_X7_count_64 rfl ?_
        refine gh_getR (k := 32) (t := 0) dc_X7_count_65 fl_RX7_7 (by decide) (by decide) rfl rfl ?_
        refine gh_iconst (v := (nI 2)) dc_X7_count_68 gc_2 ?_
        obtain ⟨h7, hw⟩ := hw
        refine gh_iald (k := 33) (t := 0) dc_X7_count_69 rfl (by decide) (by decide) h7 ?_
        exact gh_iret dc_X7_count_70 hE rfl hw
      · replace hw := hw.2 c6
        refine (Decidable.em (a0 = (nI 3))).elim (fun c8 => ?_) (fun c8 => ?_)
        · replace hw := hw.1 c8
          refine gh_tabIn (v := (nI 3)) (tgt := 71) dc_X7_count_1 c8 (by decide) (by decide) rfl rfl ?_
          refine gh_aload_n dc_X7_count_71 rfl ?_
          refine gh_getR (k := 32) (t := 0) dc_X7_count_72 fl_RX7_7 (by decide) (by decide) rfl rfl ?_
          refine gh_iconst (v := (nI 3)) dc_X7_count_75 gc_3 ?_
          obtain ⟨h9, hw⟩ := hw
          refine gh_iald (k := 33) (t := 0) dc_X7_count_76 rfl (by decide) (by decide) h9 ?_
          exact gh_iret dc_X7_count_77 hE rfl hw
        · replace hw := hw.2 c8
          refine (Decidable.em (a0 = (nI 4))).elim (fun c10 => ?_) (fun c10 => ?_)
          · replace hw := hw.1 c10
            refine gh_tabIn (v := (nI 4)) (tgt := 78) dc_X7_count_1 c10 (by decide) (by decide) rfl rfl ?_
            refine gh_aload_n dc_X7_count_78 rfl ?_
            refine gh_iconst (v := (nI 0)) dc_X7_count_79 gc_0 ?_
            refine gh_iconst (v := (nI 3)) dc_X7_count_80 gc_3 ?_
            refine gh_callVi (mi' := mi_X7_carsThat) (as := [vI (nI 0), vI (nI 3)]) (S := []) (k := 32) (t := 0) dc_X7_count_81 ml_RX7_171 ok_X7_carsThat rfl rfl (by decide) (Nat.le_of_ble_eq_true rfl) (by decide) (by decide) rfl rfl (wk_X7_carsThat _ _ _ _ hw) (fun r11 M12 hw => ?_)
            refine gh_callSi (mi' := mi_X7_bits) (as := [vI r11]) (S := []) dc_X7_count_84 ml_RX7_207 ok_X7_bits rfl rfl (by decide) (Nat.le_of_ble_eq_true rfl) (wk_X7_bits _ _ _ hw) (fun r13 M14 hw => ?_)
            exact gh_iret dc_X7_count_87 hE rfl hw
          · replace hw := hw.2 c10
            refine (Decidable.em (a0 = (nI 5))).elim (fun c15 => ?_) (fun c15 => ?_)
            · replace hw := hw.1 c15
              refine gh_tabIn (v := (nI 5)) (tgt := 88) dc_X7_count_1 c15 (by decide) (by decide) rfl rfl ?_
              refine gh_aload_n dc_X7_count_88 rfl ?_
              refine gh_iconst (v := (nI 0)) dc_X7_count_89 gc_0 ?_
              refine gh_iconst (v := (nI 5)) dc_X7_count_90 gc_5 ?_
              refine gh_callVi (mi' := mi_X7_sumOf) (as := [vI (nI 0), vI (nI 5)]) (S := []) (k := 32) (t := 0) dc_X7_count_91 ml_RX7_198 ok_X7_sumOf rfl rfl (by decide) (Nat.le_of_ble_eq_true rfl) (by decide) (by decide) rfl rfl (wk_X7_sumOf _ _ _ _ hw) (fun r16 M17 hw => ?_)
              exact gh_iret dc_X7_count_94 hE rfl hw
            · replace hw := hw.2 c15
              refine (Decidable.em (a0 = (nI 6))).elim (fun c18 => ?_) (fun c18 => ?_)
              · replace hw := hw.1 c18
                refine gh_tabIn (v := (nI 6)) (tgt := 95) dc_X7_count_1 c18 (by decide) (by decide) rfl rfl ?_
                refine gh_aload_n dc_X7_count_95 rfl ?_
                refine gh_iconst (v := (nI 0)) dc_X7_count_96 gc_0 ?_
                refine gh_iconst (v := (nI 4)) dc_X7_count_97 gc_4 ?_
                refine gh_callVi (mi' := mi_X7_sumOf) (as := [vI (nI 0), vI (nI 4)]) (S := []) (k := 32) (t := 0) dc_X7_count_98 ml_RX7_198 ok_X7_sumOf rfl rfl (by decide) (Nat.le_of_ble_eq_true rfl) (by decide) (by decide) rfl rfl (wk_X7_sumOf _ _ _ _ hw) (fun r19 M20 hw => ?_)
                exact gh_iret dc_X7_count_101 hE rfl hw
              · replace hw := hw.2 c18
                refine (Decidable.em (a0 = (nI 7))).elim (fun c21 => ?_) (fun c21 => ?_)
                · replace hw := hw.1 c21
                  refine gh_tabIn (v := (nI 7)) (tgt := 102) dc_X7_count_1 c21 (by decide) (by decide) rfl rfl ?_
                  refine gh_aload_n dc_X7_count_102 rfl ?_
                  refine gh_getI (k := 32) (t := 0) dc_X7_count_103 fl_RX7_131 (by decide) (by decide) rfl rfl ?_
                  exact gh_iret dc_X7_count_106 hE rfl hw
                · replace hw := hw.2 c21
                  refine (Decidable.em (a0 = (nI 8))).elim (fun c22 => ?_) (fun c22 => ?_)
                  · replace hw := hw.1 c22
                    refine gh_tabIn (v := (nI 8)) (tgt := 107) dc_X7_count_1 c22 (by decide) (by decide) rfl rfl ?_
                    refine gh_aload_n dc_X7_count_107 rfl ?_
                    refine gh_getI (k := 32) (t := 0) dc_X7_count_108 fl_RX7_70 (by decide) (by decide) rfl rfl ?_
                    exact gh_iret dc_X7_count_111 hE rfl hw
                  · replace hw := hw.2 c22
                    have q0 := lv_neT c1 (a := 0) (by decide)
                    have q1 := lv_neT c4 (a := 1) (by decide)
                    have q2 := lv_neT c6 (a := 2) (by decide)
                    have q3 := lv_neT c8 (a := 3) (by decide)
                    have q4 := lv_neT c10 (a := 4) (by decide)
                    have q5 := lv_neT c15 (a := 5) (by decide)
                    have q6 := lv_neT c18 (a := 6) (by decide)
                    have q7 := lv_neT c21 (a := 7) (by decide)
                    have q8 := lv_neT c22 (a := 8) (by decide)
                    refine gh_tabOut (tgt := 112) dc_X7_count_1 (by omega) rfl ?_
                    refine gh_ldc (v := (-1000001 : Int32)) dc_X7_count_112 tw_898 ?_
                    exact gh_iret dc_X7_count_114 hE rfl hw
theorem wk_X7_status   (Q : Int32 → gh_M → Prop)  (M : gh_M) (hw : wp_X7_status   M Q) : gh_Calls 1 mi_X7_status [vR 32 0] M (gh_Qi Q) := by
  refine gh_of (by decide) rfl 0 rfl (L0 := [some (vR 32 0)]) rfl (fun wd x hE => ?_)
  unfold wp_X7_status at hw
  refine gh_aload_n dc_X7_status_0 rfl ?_
  refine gh_getI (k := 32) (t := 0) dc_X7_status_1 fl_RX7_46 (by decide) (by decide) rfl rfl ?_
  exact gh_iret dc_X7_status_4 hE rfl hw
