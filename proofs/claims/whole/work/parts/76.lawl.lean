-- THE LAW: its switch and loop
theorem lw_sw {wd : gh_Wd} {x : gh_X} {M : gh_M} {b L : Nat} {xs : Nat → Int32} {i : Nat} (hX : gh_Sc wd b L xs x) (hi : i + 7 ≤ L) (hL : L ≤ 3584) (hO : OKn M) (hN : ∀ M', OKn M' → gh_J mi_law 1000 wd x M' 1491 (lwL i) []) {a : Int32} {j : Nat} (ha : a = nI j) (hj : j < 64) : gh_J mi_law 1000 wd x M 33 (lwL i) [vI a] := by
  have hc : j = 0 ∨ j = 1 ∨ j = 2 ∨ j = 3 ∨ j = 4 ∨ j = 5 ∨ j = 6 ∨ j = 7 ∨ j = 8 ∨ j = 9 ∨ j = 10 ∨ j = 11 ∨ j = 12 ∨ j = 13 ∨ j = 14 ∨ j = 15 ∨ j = 16 ∨ j = 17 ∨ j = 18 ∨ j = 19 ∨ j = 20 ∨ j = 21 ∨ j = 22 ∨ j = 23 ∨ j = 24 ∨ j = 25 ∨ j = 26 ∨ j = 27 ∨ j = 28 ∨ j = 29 ∨ j = 30 ∨ j = 31 ∨ j = 32 ∨ j = 33 ∨ j = 34 ∨ j = 35 ∨ j = 36 ∨ j = 37 ∨ j = 38 ∨ j = 39 ∨ 40 ≤ j := by omega
  rcases hc with rfl | rfl | rfl | rfl | rfl | rfl | rfl | rfl | rfl | rfl | rfl | rfl | rfl | rfl | rfl | rfl | rfl | rfl | rfl | rfl | rfl | rfl | rfl | rfl | rfl | rfl | rfl | rfl | rfl | rfl | rfl | rfl | rfl | rfl | rfl | rfl | rfl | rfl | rfl | rfl | h
  · exact gh_tabIn (off := 175) (tgt := 208) dl_33 ha (by decide) (by decide) (by decide) rfl (lc_row hX hi hL hO hN)
  · exact gh_tabIn (off := 218) (tgt := 251) dl_33 ha (by decide) (by decide) (by decide) rfl (lc_set hX hi hL hO hN)
  · exact gh_tabIn (off := 261) (tgt := 294) dl_33 ha (by decide) (by decide) (by decide) rfl (lc_copy hX hi hL hO hN)
  · exact gh_tabIn (off := 324) (tgt := 357) dl_33 ha (by decide) (by decide) (by decide) rfl (lc_drop hX hi hL hO hN)
  · exact gh_tabIn (off := 347) (tgt := 380) dl_33 ha (by decide) (by decide) (by decide) rfl (lc_feed hX hi hL hO hN)
  · exact gh_tabIn (off := 370) (tgt := 403) dl_33 ha (by decide) (by decide) (by decide) rfl (lc_train hX hi hL hO hN)
  · exact gh_tabIn (off := 383) (tgt := 416) dl_33 ha (by decide) (by decide) (by decide) rfl (lc_fault hX hi hL hO hN)
  · exact gh_tabIn (off := 396) (tgt := 429) dl_33 ha (by decide) (by decide) (by decide) rfl (lc_undo hX hi hL hO hN)
  · exact gh_tabIn (off := 409) (tgt := 442) dl_33 ha (by decide) (by decide) (by decide) rfl (lc_ticks hX hi hL hO hN)
  · exact gh_tabIn (off := 432) (tgt := 465) dl_33 ha (by decide) (by decide) (by decide) rfl (lc_place hX hi hL hO hN)
  · exact gh_tabIn (off := 465) (tgt := 498) dl_33 ha (by decide) (by decide) (by decide) rfl (lc_flip hX hi hL hO hN)
  · exact gh_tabIn (off := 488) (tgt := 521) dl_33 ha (by decide) (by decide) (by decide) rfl (lc_nerve hX hi hL hO hN)
  · exact gh_tabIn (off := 521) (tgt := 554) dl_33 ha (by decide) (by decide) (by decide) rfl (lc_again hX hi hL hO hN)
  · exact gh_tabIn (off := 544) (tgt := 577) dl_33 ha (by decide) (by decide) (by decide) rfl (lc_trick hX hi hL hO hN)
  · exact gh_tabIn (off := 577) (tgt := 610) dl_33 ha (by decide) (by decide) (by decide) rfl (lc_car hX hi hL hO hN)
  · exact gh_tabIn (off := 610) (tgt := 643) dl_33 ha (by decide) (by decide) (by decide) rfl (lc_cell hX hi hL hO hN)
  · exact gh_tabIn (off := 643) (tgt := 676) dl_33 ha (by decide) (by decide) (by decide) rfl (lc_stand hX hi hL hO hN)
  · exact gh_tabIn (off := 666) (tgt := 699) dl_33 ha (by decide) (by decide) (by decide) rfl (lc_ahead hX hi hL hO hN)
  · exact gh_tabIn (off := 709) (tgt := 742) dl_33 ha (by decide) (by decide) (by decide) rfl (lc_show hX hi hL hO hN)
  · exact gh_tabIn (off := 742) (tgt := 775) dl_33 ha (by decide) (by decide) (by decide) rfl (lc_when hX hi hL hO hN)
  · exact gh_tabIn (off := 775) (tgt := 808) dl_33 ha (by decide) (by decide) (by decide) rfl (lc_over hX hi hL hO hN)
  · exact gh_tabIn (off := 788) (tgt := 821) dl_33 ha (by decide) (by decide) (by decide) rfl (lc_order hX hi hL hO hN)
  · exact gh_tabIn (off := 821) (tgt := 854) dl_33 ha (by decide) (by decide) (by decide) rfl (lc_spot hX hi hL hO hN)
  · exact gh_tabIn (off := 864) (tgt := 897) dl_33 ha (by decide) (by decide) (by decide) rfl (lc_calm hX hi hL hO hN)
  · exact gh_tabIn (off := 897) (tgt := 930) dl_33 ha (by decide) (by decide) (by decide) rfl (lc_bears hX hi hL hO hN)
  · exact gh_tabIn (off := 930) (tgt := 963) dl_33 ha (by decide) (by decide) (by decide) rfl (lc_sets hX hi hL hO hN)
  · exact gh_tabIn (off := 963) (tgt := 996) dl_33 ha (by decide) (by decide) (by decide) rfl (lc_share hX hi hL hO hN)
  · exact gh_tabIn (off := 996) (tgt := 1029) dl_33 ha (by decide) (by decide) (by decide) rfl (lc_byTurns hX hi hL hO hN)
  · exact gh_tabIn (off := 1029) (tgt := 1062) dl_33 ha (by decide) (by decide) (by decide) rfl (lc_who hX hi hL hO hN)
  · exact gh_tabIn (off := 1104) (tgt := 1137) dl_33 ha (by decide) (by decide) (by decide) rfl (lc_nerves hX hi hL hO hN)
  · exact gh_tabIn (off := 1167) (tgt := 1200) dl_33 ha (by decide) (by decide) (by decide) rfl (lc_fails hX hi hL hO hN)
  · exact gh_tabIn (off := 1221) (tgt := 1254) dl_33 ha (by decide) (by decide) (by decide) rfl (lc_drawn hX hi hL hO hN)
  · exact gh_tabIn (off := 1264) (tgt := 1297) dl_33 ha (by decide) (by decide) (by decide) rfl (lc_image hX hi hL hO hN)
  · exact gh_tabIn (off := 1287) (tgt := 1320) dl_33 ha (by decide) (by decide) (by decide) rfl (lc_restore hX hi hL hO hN)
  · exact gh_tabIn (off := 1310) (tgt := 1343) dl_33 ha (by decide) (by decide) (by decide) rfl (lc_kind hX hi hL hO hN)
  · exact gh_tabIn (off := 1333) (tgt := 1366) dl_33 ha (by decide) (by decide) (by decide) rfl (lc_as hX hi hL hO hN)
  · exact gh_tabIn (off := 1366) (tgt := 1399) dl_33 ha (by decide) (by decide) (by decide) rfl (lc_ask hX hi hL hO hN)
  · exact gh_tabIn (off := 1399) (tgt := 1432) dl_33 ha (by decide) (by decide) (by decide) rfl (lc_trace hX hi hL hO hN)
  · exact gh_tabIn (off := 1422) (tgt := 1455) dl_33 ha (by decide) (by decide) (by decide) rfl (lc_count hX hi hL hO hN)
  · exact gh_tabIn (off := 1445) (tgt := 1478) dl_33 ha (by decide) (by decide) (by decide) rfl (lc_status hX hi hL hO hN)
  · refine gh_tabOut (tgt := 1491) dl_33 (Or.inr ?_) rfl (hN M hO)
    rw [ha, nI_toInt (by omega)]
    omega
theorem lw_len {i L : Nat} (hL : L ≤ 3584) (hi : i ≤ 4000) : (nI L - nI 7 < nI i ↔ L < i + 7) := by
  rw [Int32.lt_iff_toInt_lt, pk_sub_toInt (by omega) (by omega), nI_toInt (by omega)]
  omega
theorem lw_loop {wd : gh_Wd} {x : gh_X} {b L : Nat} {xs : Nat → Int32} (hX : gh_Sc wd b L xs x) (hL : L ≤ 3584) (hEnd : ∀ M LL, gh_J mi_law 1000 wd x M 1498 LL [vI (nI 1)]) :
    ∀ (r i : Nat) (M : gh_M), L + 1 ≤ i + r → i ≤ L → OKn M → gh_J mi_law 1000 wd x M 18 (lwL i) []
  | 0, i, M, hr, hi, hO => absurd hr (by omega)
  | r + 1, i, M, hr, hi, hO => by
    refine gh_iload_n dl_18 rfl ?_
    refine gh_aload_n dl_19 rfl ?_
    refine gh_slen hX dl_20 ?_
    refine gh_bipush dl_21 (v := nI 7) (by decide) ?_
    refine gh_isub dl_23 ?_
    refine gh_icmp_gt (tgt := 1497) dl_24 rfl (fun h => ?_) (fun h => ?_)
    · refine gh_iconst dl_1497 (v := nI 1) (by decide) ?_
      exact hEnd _ _
    · have h7 : i + 7 ≤ L := Nat.le_of_not_lt (fun e => h ((lw_len hL (by omega)).mpr e))
      refine gh_aload_n dl_27 rfl ?_
      refine gh_iload_n dl_28 rfl ?_
      refine gh_sld hX dl_29 (vp_in_nI (by omega) (by omega)) ?_
      refine gh_bipush dl_30 (v := nI 63) (by decide) ?_
      refine gh_iand dl_32 ?_
      obtain ⟨j, hj, ej⟩ := pk_andE (xs (nI i).toNatClampNeg) (m := nI 63) 6 (by decide)
      refine lw_sw hX h7 hL hO (fun M' hO' => ?_) ej hj
      refine gh_iinc (v := nI (i + 7)) dl_1491 rfl (by rw [← nI_add]; rfl) (by decide) rfl rfl ?_
      refine gh_goto (tgt := 18) dl_1494 rfl ?_
      exact lw_loop hX hL hEnd r (i + 7) M' (by omega) h7 hO'
/-- the law's end -/
theorem lw_last {wd : gh_Wd} {p : Program} {l : Launch} {e : Env} {s : State} {m : MethodId} {below : List Frame} {meth : Method} {c : Code} {b : Nat} (hA : wd.2.2.2 = s.heap.size) (M : gh_M) (LL : List (Option gh_V)) : gh_J mi_law 1000 wd (p, l, e, room_1, s, m, #[Value.ref b], below, meth, c, 600000, 7302250, lw_Z below #[Value.ref b] s) M 1498 LL [vI (nI 1)] := by
  intro hC H locs ls hP hS hL
  refine va_forget (fun q hq => ?_) ?_
  · have := hS.2.2 q hq
    have h2 : wd.2.2.2 ≤ q.base := this
    rw [hA] at h2
    exact h2
  · exact lw_ret hC.1 hC.2.1 hC.2.2.2.2.2.2.2.1 hC.2.2.2.2.2.2.1 dl_1498.1
