-- STATUS, COUNT, AS, SHARE, SETS
theorem CS.st09 {M : gh_M} {S : SS} (h : CS M S) (v : Int32) : CS (gh_st M 0 0 9 v) (S.1, S.2.1, (S.2.2.1.1, v), S.2.2.2) := by
  obtain ⟨h0, h1, h2, h3, h4, h5, h6, h7, h8, h9⟩ := h
  have e : ∀ a b, a ≠ 0 → gh_st M 0 0 9 v a b = M a b := fun a b q => zb_kr _ _ _ _ _ q
  refine ⟨fun t ht => ?_, h1.mv (fun a b q => e a b (by omega)), ?_, ?_, zb_s _ _ _ _ _, ?_, h6.mv (fun a q1 q2 => e a 0 (by omega)), h7.mv (fun a t q1 q2 q3 q4 => e a t (by omega)) (e 21 0 (by omega)), h8.mv (fun a t q1 q2 q3 q4 => e a t (by omega)), h9.mv ?_ ?_ ?_⟩
  · have := h0 t ht
    unfold bo at this ⊢
    rw [e 10 t (by omega), e 18 t (by omega)]
    exact this
  · unfold cTap at h2 ⊢
    rw [e 4 0 (by omega), e 5 0 (by omega)]
    exact h2
  · rw [zb_j _ _ _ _ (by omega)]; exact h3
  · unfold cTrc at h5 ⊢
    rw [e 30 0 (by omega), e 31 0 (by omega)]
    exact h5
  · rw [e 24 0 (by omega)]
  · rw [e 24 0 (by omega)]
  · rw [e 26 0 (by omega)]
theorem RS.st13 {M : gh_M} {S : SS} (h : RS M S) (v : Int32) : RS (gh_st M 32 0 13 v) (S.1, S.2.1, (S.2.2.1.1, v), S.2.2.2) := by
  obtain ⟨h1, h2, h3, h4, h5, h6, h7, h8⟩ := h
  have e : ∀ a b i, a ≠ 32 → gh_st M 32 0 13 v a b i = M a b i := fun a b i q => zb_k _ _ _ _ _ _ q
  have er : ∀ x T, rr M x T → rr (gh_st M 32 0 13 v) x T := fun x T g i hi => (e 33 0 (x + i) (by omega)).trans (g i hi)
  refine ⟨h1.mv (fun a i q => e a 0 i (by omega)), ⟨?_, fun i hi => ?_⟩, ?_, zb_s _ _ _ _ _, ⟨?_, fun i hi => ?_⟩, ?_, ⟨?_, fun i hi => er _ _ (h7.2 i hi)⟩, ⟨?_, fun k hk X hX => er _ _ (h8.2 k hk X hX)⟩⟩
  · rw [zb_j _ _ _ _ (by omega)]; exact h2.1
  · rw [e 37 0 i (by omega)]; exact h2.2 i hi
  · rw [zb_j _ _ _ _ (by omega)]; exact h3
  · rw [zb_j _ _ _ _ (by omega)]; exact h5.1
  · rw [e 41 0 i (by omega)]; exact h5.2 i hi
  · unfold rTrn at h6 ⊢
    show match S.2.2.2.2.1 with
      | none => gh_st M 32 0 13 v 33 0 0 = nI 0 ∧ gh_st M 32 0 13 v 33 0 1 = nI 0 ∧ gh_st M 32 0 13 v 33 0 2 = nI 0 ∧ gh_st M 32 0 13 v 33 0 3 = nI 0
      | some X => rr (gh_st M 32 0 13 v) 0 X.1
    cases q : S.2.2.2.2.1 with
    | none =>
      rw [q] at h6
      simp only [e 33 0 _ (by decide : (33 : Nat) ≠ 32)]
      exact h6
    | some X => rw [q] at h6; exact er _ _ h6
  · rw [zb_j _ _ _ _ (by omega)]; exact h7.1
  · rw [zb_j _ _ _ _ (by omega)]; exact h8.1
/-- both tell a finding, or none -/
theorem OK_su {M M1 : gh_M} {S : SS} (hC : CS M S) (hR : RS M S) (v : Int32) (e : M1 = gh_st M 0 0 9 v) : OKn (gh_st M1 32 0 13 v) := by
  subst e
  refine ⟨(S.1, S.2.1, (S.2.2.1.1, v), S.2.2.2), (hC.st09 v).fC (fC.st fC.refl (by omega)), ?_⟩
  have h1 := (hR.fR (fR.st (A := M) fR.refl (k := 0) (t := 0) (j := 9) (v := v) (by omega)) hC.n24).st13 v
  exact h1
-- counting bits
def pop (m : Nat) : Nat := m % 2 + m / 2 % 2 + m / 4 % 2 + m / 8 % 2 + m / 16 % 2 + m / 32 % 2
theorem sb_or : ∀ n, n < 6 → ∀ m, m < 2 ^ n → nI m ||| (nI 1 <<< (nI n &&& 31)) = nI (m + 2 ^ n) := by decide +kernel
theorem sb_pop : ∀ n, n < 6 → ∀ m, m < 2 ^ n → pop (m + 2 ^ n) = pop m + 1 := by decide +kernel
theorem sbit_nat (p : Nat → Bool) : ∀ n, n ≤ 6 → ∃ m, m < 2 ^ n ∧ sbit p n = nI m ∧ pop m = fb_ct p n
  | 0, _ => ⟨0, by decide, rfl, rfl⟩
  | n + 1, h => by
    obtain ⟨m, h1, h2, h3⟩ := sbit_nat p n (by omega)
    unfold sbit
    rw [fb_ct_succ]
    have e2 : 2 ^ (n + 1) = 2 ^ n + 2 ^ n := by rw [Nat.pow_succ]; omega
    by_cases g : p n = true
    · rw [if_pos g, if_pos g, h2, sb_or n (by omega) m h1]
      exact ⟨m + 2 ^ n, by omega, rfl, by rw [sb_pop n (by omega) m h1, h3]⟩
    · rw [if_neg g, if_neg g]
      exact ⟨m, by omega, h2, by omega⟩
theorem bc_val : ∀ m, m < 64 → (let y1 := nI m - (((nI m).toUInt32 >>> ((nI 1).toUInt32 &&& Int32.toUInt32 31)).toInt32 &&& (1431655765 : Int32)); let y2 := (y1 &&& (858993459 : Int32)) + ((y1.toUInt32 >>> ((nI 2).toUInt32 &&& Int32.toUInt32 31)).toInt32 &&& (858993459 : Int32)); let y3 := (y2 + (y2.toUInt32 >>> ((nI 4).toUInt32 &&& Int32.toUInt32 31)).toInt32) &&& (252645135 : Int32); let y4 := y3 + (y3.toUInt32 >>> ((nI 8).toUInt32 &&& Int32.toUInt32 31)).toInt32; let y5 := y4 + (y4.toUInt32 >>> ((nI 16).toUInt32 &&& Int32.toUInt32 31)).toInt32; y5 &&& (nI 63)) = nI (pop m) := by decide +kernel
theorem c_bits {m : Nat} {M : gh_M} {Q : Int32 → gh_M → Prop} (hm : m < 64) (hq : Q (nI (pop m)) M) : wp_J6_bitCount_0f7a4 (nI m) M Q := by
  unfold wp_J6_bitCount_0f7a4
  rintro _ rfl _ rfl _ rfl _ rfl _ rfl
  have := bc_val m hm
  dsimp only at this
  rw [this]
  exact hq
theorem rb_val : ∀ m, m < 64 → bx_sum (fun k => (nI m >>> (nI k &&& 31)) &&& nI 1) 12 = nI (pop m) := by decide +kernel
theorem r_bits_l {a : Int32} {M : gh_M} {Q : Int32 → gh_M → Prop} (hq : Q (bx_sum (fun k => (a >>> (nI k &&& 31)) &&& nI 1) 12) M) : ∀ r c, c + r = 12 → wl_X7_bits_4 Q (r + 1) a (bx_sum (fun k => (a >>> (nI k &&& 31)) &&& nI 1) c) (nI c) M := by
  intro r
  induction r with
  | zero =>
    intro c hc
    have e : c = 12 := by omega
    subst e
    unfold wl_X7_bits_4
    exact ⟨fun _ => hq, fun h => absurd (Int32.le_refl _) h⟩
  | succ r ih =>
    intro c hc
    unfold wl_X7_bits_4
    refine ⟨fun h => absurd h (nI_ge (by omega) (by omega)), fun _ => ?_⟩
    rintro _ rfl _ rfl
    rw [nI_add]
    exact ih (c + 1) (by omega)
theorem r_bits {m : Nat} {M : gh_M} {Q : Int32 → gh_M → Prop} (hm : m < 64) (hq : Q (nI (pop m)) M) : wp_X7_bits (nI m) M Q :=
  ⟨13, r_bits_l (by rw [rb_val m hm]; exact hq) 12 0 (by omega)⟩
-- rows that are there
def nrow (sz : Nat → Option Nat) : Nat → Int32
  | 0 => nI 0
  | r + 1 => nrow sz r + (if (sz r).isSome then nI 1 else nI 0)
theorem c_rows {M : gh_M} {R : SR} (h : cRow M R) {Q : Int32 → gh_M → Prop} (hq : Q (nrow R.1 8) M) : ∀ r c, c + r = 8 → wl_X6_rowsThere_4 Q (r + 1) (nrow R.1 c) (nI c) M := by
  intro r
  induction r with
  | zero =>
    intro c hc
    have e : c = 8 := by omega
    subst e
    unfold wl_X6_rowsThere_4
    exact ⟨fun _ => hq, fun h => absurd (Int32.le_refl _) h⟩
  | succ r ih =>
    intro c hc
    unfold wl_X6_rowsThere_4
    simp (disch := omega) only [nI_add, nI_clamp, zb_in, true_and]
    refine ⟨fun h => absurd h (nI_ge (by omega) (by omega)), fun _ => ?_⟩
    rintro j hj rfl
    have hh := h c (by omega)
    have := ih (c + 1) (by omega)
    unfold nrow at this
    cases g : R.1 c with
    | none =>
      rw [g] at hh this
      have hh : M 2 c 0 = 0 := hh
      rw [hh]
      refine oneIf_id (Or.inl rfl) ?_
      rintro _ rfl _ rfl
      exact this
    | some n =>
      rw [g] at hh this
      rw [hh.1]
      refine oneIf_id (Or.inr rfl) ?_
      rintro _ rfl _ rfl
      exact this
theorem r_rows {M : gh_M} {R : SR} (h : rRow M R) (h40 : ∀ r n, R.1 r = some n → r < 8 → n ≤ 40) {Q : Int32 → gh_M → Prop} (hq : Q (nrow R.1 8) M) : ∀ r c, c + r = 8 → wl_X7_rowMany_4 Q (r + 1) (nrow R.1 c) (nI c) M := by
  intro r
  induction r with
  | zero =>
    intro c hc
    have e : c = 8 := by omega
    subst e
    unfold wl_X7_rowMany_4
    exact ⟨fun _ => hq, fun h => absurd (Int32.le_refl _) h⟩
  | succ r ih =>
    intro c hc
    unfold wl_X7_rowMany_4
    simp (disch := omega) only [nI_add, nI_clamp, zb_in, true_and]
    refine ⟨fun h => absurd h (nI_ge (by omega) (by omega)), fun _ => ?_⟩
    have hh := h c (by omega)
    have := ih (c + 1) (by omega)
    unfold nrow at this
    cases g : R.1 c with
    | none =>
      rw [g] at hh this
      have hh : M 40 0 c = -1 := hh
      rw [hh]
      refine ⟨fun q => absurd q (by decide), fun _ => ?_⟩
      rintro _ rfl _ rfl
      exact this
    | some n =>
      have hn := h40 c n g (by omega)
      rw [g] at hh this
      rw [hh.1]
      refine ⟨fun _ => ?_, fun q => absurd (nI_pos' (by omega)) q⟩
      rintro _ rfl _ rfl
      exact this
theorem cRow.le {M : gh_M} {R : SR} (h : cRow M R) : ∀ r n, R.1 r = some n → r < 8 → n ≤ 40 := fun r n e hr => by
  have := h r hr
  rw [e] at this
  exact this.2.2.1
theorem L_count {a0 : Int32} {M : gh_M} {S : SS} (hC : CS M S) (hR : RS M S) : wp_X6_count a0 M (fun r1 M1 => wp_X7_count a0 M1 (fun r2 M2 => r1 = r2 ∧ OKn M2)) := by
  have hOK : OKn M := ⟨S, hC, hR⟩
  have hT := hC.2.2.2.2.2.2.1
  have hT2 := hR.2.2.2.2.2.1
  obtain ⟨e0, e1, e2, b0, b1, b2⟩ := hT.hd
  obtain ⟨f0, f1, f2⟩ := hT2.hd hT.ok
  obtain ⟨T, hd, hr, k1, k2⟩ := gen hC hR
  have e3 : M 6 0 3 = M 33 0 3 := hd.2.2.2.1.trans (hr.at0 (by omega) rfl).symm
  have hA := hC.2.2.2.2.2.2.2.1
  have hA2 := hR.2.2.2.2.2.2.1
  unfold wp_X6_count wp_X7_count
  rcases few a0 8 (by omega) with ⟨w, hw, rfl⟩ | ⟨hb, hne⟩
  · have hc : w = 0 ∨ w = 1 ∨ w = 2 ∨ w = 3 ∨ w = 4 ∨ w = 5 ∨ w = 6 ∨ w = 7 ∨ w = 8 := by omega
    simp (disch := omega) only [nI_eq, nI_clamp, zb_in, true_and]
    rcases hc with rfl | rfl | rfl | rfl | rfl | rfl | rfl | rfl | rfl
    · refine ⟨fun _ => ⟨9, c_rows hC.2.1 ?_ 8 0 (by omega)⟩, fun h => absurd rfl h⟩
      exact ⟨fun _ => ⟨9, r_rows hR.1 hC.2.1.le ⟨rfl, hOK⟩ 8 0 (by omega)⟩, fun h => absurd rfl h⟩
    · refine ⟨fun h => by omega, fun _ => ⟨fun _ => ?_, fun h => absurd rfl h⟩⟩
      exact ⟨fun h => by omega, fun _ => ⟨fun _ => ⟨e1.trans f1.symm, hOK⟩, fun h => absurd rfl h⟩⟩
    · refine ⟨fun h => by omega, fun _ => ⟨fun h => by omega, fun _ => ⟨fun _ => ?_, fun h => absurd rfl h⟩⟩⟩
      exact ⟨fun h => by omega, fun _ => ⟨fun h => by omega, fun _ => ⟨fun _ => ⟨e2.trans f2.symm, hOK⟩, fun h => absurd rfl h⟩⟩⟩
    · refine ⟨fun h => by omega, fun _ => ⟨fun h => by omega, fun _ => ⟨fun h => by omega, fun _ => ⟨fun _ => ?_, fun h => absurd rfl h⟩⟩⟩⟩
      exact ⟨fun h => by omega, fun _ => ⟨fun h => by omega, fun _ => ⟨fun h => by omega, fun _ => ⟨fun _ => ⟨e3, hOK⟩, fun h => absurd rfl h⟩⟩⟩⟩
    · refine ⟨fun h => by omega, fun _ => ⟨fun h => by omega, fun _ => ⟨fun h => by omega, fun _ => ⟨fun h => by omega, fun _ => ⟨fun _ => ?_, fun h => absurd rfl h⟩⟩⟩⟩⟩
      obtain ⟨m, hm, em, -⟩ := sbit_nat (sp_th T 3) (ona S.2.2.2.2.1) b2
      have hm64 : m < 64 := Nat.lt_of_lt_of_le hm (Nat.pow_le_pow_right (by omega) b2)
      refine c_out hd k2 b2 ?_
      rw [em]
      refine c_bits hm64 ?_
      refine ⟨fun h => by omega, fun _ => ⟨fun h => by omega, fun _ => ⟨fun h => by omega, fun _ => ⟨fun h => by omega, fun _ => ⟨fun _ => ?_, fun h => absurd rfl h⟩⟩⟩⟩⟩
      refine r_that (by omega) hr k2 b2 ⟨by omega, by omega⟩ ?_
      rw [em]
      exact r_bits hm64 ⟨rfl, hOK⟩
    · refine ⟨fun h => by omega, fun _ => ⟨fun h => by omega, fun _ => ⟨fun h => by omega, fun _ => ⟨fun h => by omega, fun _ => ⟨fun h => by omega, fun _ => ⟨fun _ => ?_, fun h => absurd rfl h⟩⟩⟩⟩⟩⟩
      refine c_scr hd k2 b2 ?_
      exact ⟨fun h => by omega, fun _ => ⟨fun h => by omega, fun _ => ⟨fun h => by omega, fun _ => ⟨fun h => by omega, fun _ => ⟨fun h => by omega, fun _ => ⟨fun _ => r_sumOf (by omega) hr k2 b2 (by omega) ⟨rfl, hOK⟩, fun h => absurd rfl h⟩⟩⟩⟩⟩⟩
    · refine ⟨fun h => by omega, fun _ => ⟨fun h => by omega, fun _ => ⟨fun h => by omega, fun _ => ⟨fun h => by omega, fun _ => ⟨fun h => by omega, fun _ => ⟨fun h => by omega, fun _ => ⟨fun _ => ?_, fun h => absurd rfl h⟩⟩⟩⟩⟩⟩⟩
      refine c_fea hd k2 b2 ?_
      exact ⟨fun h => by omega, fun _ => ⟨fun h => by omega, fun _ => ⟨fun h => by omega, fun _ => ⟨fun h => by omega, fun _ => ⟨fun h => by omega, fun _ => ⟨fun h => by omega, fun _ => ⟨fun _ => r_sumOf (by omega) hr k2 b2 (by omega) ⟨rfl, hOK⟩, fun h => absurd rfl h⟩⟩⟩⟩⟩⟩⟩
    · refine ⟨fun h => by omega, fun _ => ⟨fun h => by omega, fun _ => ⟨fun h => by omega, fun _ => ⟨fun h => by omega, fun _ => ⟨fun h => by omega, fun _ => ⟨fun h => by omega, fun _ => ⟨fun h => by omega, fun _ => ⟨fun _ => ?_, fun h => absurd rfl h⟩⟩⟩⟩⟩⟩⟩⟩
      exact ⟨fun h => by omega, fun _ => ⟨fun h => by omega, fun _ => ⟨fun h => by omega, fun _ => ⟨fun h => by omega, fun _ => ⟨fun h => by omega, fun _ => ⟨fun h => by omega, fun _ => ⟨fun h => by omega, fun _ => ⟨fun _ => ⟨hA.2.1.trans hA2.1.symm, hOK⟩, fun h => absurd rfl h⟩⟩⟩⟩⟩⟩⟩⟩
    · refine ⟨fun h => by omega, fun _ => ⟨fun h => by omega, fun _ => ⟨fun h => by omega, fun _ => ⟨fun h => by omega, fun _ => ⟨fun h => by omega, fun _ => ⟨fun h => by omega, fun _ => ⟨fun h => by omega, fun _ => ⟨fun h => by omega, fun _ => ⟨fun _ => ?_, fun h => absurd rfl h⟩⟩⟩⟩⟩⟩⟩⟩⟩
      exact ⟨fun h => by omega, fun _ => ⟨fun h => by omega, fun _ => ⟨fun h => by omega, fun _ => ⟨fun h => by omega, fun _ => ⟨fun h => by omega, fun _ => ⟨fun h => by omega, fun _ => ⟨fun h => by omega, fun _ => ⟨fun h => by omega, fun _ => ⟨fun _ => ⟨hC.2.2.1.2.1.trans hR.2.1.1.symm, hOK⟩, fun h => absurd rfl h⟩⟩⟩⟩⟩⟩⟩⟩⟩
  · refine ⟨fun h => absurd h (hne 0 (by omega)), fun _ => ⟨fun h => absurd h (hne 1 (by omega)), fun _ => ⟨fun h => absurd h (hne 2 (by omega)), fun _ => ⟨fun h => absurd h (hne 3 (by omega)), fun _ => ⟨fun h => absurd h (hne 4 (by omega)), fun _ => ⟨fun h => absurd h (hne 5 (by omega)), fun _ => ⟨fun h => absurd h (hne 6 (by omega)), fun _ => ⟨fun h => absurd h (hne 7 (by omega)), fun _ => ⟨fun h => absurd h (hne 8 (by omega)), fun _ => ?_⟩⟩⟩⟩⟩⟩⟩⟩⟩
    exact ⟨fun h => absurd h (hne 0 (by omega)), fun _ => ⟨fun h => absurd h (hne 1 (by omega)), fun _ => ⟨fun h => absurd h (hne 2 (by omega)), fun _ => ⟨fun h => absurd h (hne 3 (by omega)), fun _ => ⟨fun h => absurd h (hne 4 (by omega)), fun _ => ⟨fun h => absurd h (hne 5 (by omega)), fun _ => ⟨fun h => absurd h (hne 6 (by omega)), fun _ => ⟨fun h => absurd h (hne 7 (by omega)), fun _ => ⟨fun h => absurd h (hne 8 (by omega)), fun _ => ⟨rfl, hOK⟩⟩⟩⟩⟩⟩⟩⟩⟩⟩
