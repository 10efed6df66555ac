-- TRAIN: the call
def T00 : TT := fun _ => nI 0
def lwN (n : Nat) (p : Nat → Int32) : Int32 × (Nat × Nat) := nuP n p (nI 4) (nI 12) (sgP n p (nI 103) (0, 0))
def lwS (n : Nat) (p : Nat → Int32) : Nat × Nat := sgP n p (nI 59) (lwN n p).2
def rdA (n : Nat) (p : Nat → Int32) : RA := if (lwS n p).1 = 0 then rdF n p ((lwN n p).1 - nI 1) 12 0 0 (lwS n p).2 (upd T00 0 (lwN n p).1) else (lwS n p, 0, 0, T00)
theorem sgP_bad {n : Nat} {p : Nat → Int32} {c : Int32} {s : Nat × Nat} (h : s.1 ≠ 0) : sgP n p c s = s := by unfold sgP; rw [if_neg h]
theorem nuP_bad {n : Nat} {p : Nat → Int32} {lo hi : Int32} {s : Nat × Nat} (h : s.1 ≠ 0) : nuP n p lo hi s = (lo, s) := by unfold nuP; rw [if_neg h]
theorem lwS_bad {n : Nat} {p : Nat → Int32} (h : (sgP n p (nI 103) (0, 0)).1 ≠ 0) : lwS n p = sgP n p (nI 103) (0, 0) := by
  unfold lwS lwN
  rw [nuP_bad h, sgP_bad h]
theorem lw_ok {n : Nat} {p : Nat → Int32} (h : (lwS n p).1 = 0) : ∃ nc, 4 ≤ nc ∧ nc ≤ 12 ∧ (lwN n p).1 = nI nc := (nuP_val (by omega) (by omega) (sgP_ok h)).2
theorem drO0 {nc : Nat} : drO (upd T00 0 (nI nc)) nc 0 0 :=
  ⟨pk_us, pk_un (by omega), pk_un (by omega), pk_un (by omega), fun t ht => absurd ht (Nat.not_lt_zero _), fun c hc => absurd hc (Nat.not_lt_zero _), fun c _ => ⟨pk_un (by omega), pk_un (by omega), pk_un (by omega)⟩⟩
theorem c_f20 {M0 : gh_M} {Q : gh_M → Prop} (hQ : ∀ M', (∀ i, i < 12 → M' 20 1 i = (-1 : Int32)) → (∀ a b i, ¬ (a = 20 ∧ b = 1) → M' a b i = M0 a b i) → Q M') :
    ∀ (r k : Nat) (M : gh_M), k + r = 12 → (∀ i, i < k → M 20 1 i = (-1 : Int32)) → (∀ a b i, ¬ (a = 20 ∧ b = 1) → M a b i = M0 a b i) → wl_J7_fill_53178_k20_5 1 Q (r + 1) (-1 : Int32) (nI k) (nI 12) M := by
  intro r
  induction r with
  | zero =>
    intro k M hk h1 h2
    have e : k = 12 := by omega
    subst e
    unfold wl_J7_fill_53178_k20_5
    exact ⟨fun _ => hQ M h1 h2, fun h => absurd (Int32.le_refl _) h⟩
  | succ r ih =>
    intro k M hk h1 h2
    unfold wl_J7_fill_53178_k20_5
    simp (disch := omega) only [nI_add, nI_clamp, zb_in, true_and]
    refine ⟨fun h => absurd h (nI_ge (by omega) (by omega)), fun _ => ?_⟩
    rintro _ rfl _ rfl
    refine ih (k + 1) _ (by omega) (fun i hi => ?_) (fun a b i h => ?_)
    · rw [zb_st]
      by_cases e : i = k
      · rw [if_pos ⟨rfl, rfl, e⟩]
      · rw [if_neg (by omega)]; exact h1 i (by omega)
    · rw [zb_st, if_neg (by omega)]; exact h2 a b i h
theorem c_clear {M : gh_M} {Q : gh_M → Prop} (hb : bo M 1) (hQ : ∀ M', ft 1 M M' → drC M' T00 0 0 → Q M') : wp_X5_clear 1 M Q := by
  unfold wp_X5_clear
  rintro M1 e1 M2 e2 M3 e3 M4 e4 M5 e5
  refine ⟨13, c_f20 (M0 := M5) (fun M6 h1 h2 => ?_) 12 0 M5 (by omega) (fun i hi => absurd hi (Nat.not_lt_zero _)) (fun _ _ _ _ => rfl)⟩
  have f5 : ∀ a b i, ¬ (a = 6 ∧ b = 1 ∧ i < 5) → M5 a b i = M a b i := fun a b i q => by
    rw [e5, zb_st, if_neg (by omega), e4, zb_st, if_neg (by omega), e3, zb_st, if_neg (by omega), e2, zb_st, if_neg (by omega), e1, zb_st, if_neg (by omega)]
  have g0 : M5 6 1 0 = nI 0 := by rw [e5, zb_j _ _ _ _ (by omega), e4, zb_j _ _ _ _ (by omega), e3, zb_j _ _ _ _ (by omega), e2, zb_j _ _ _ _ (by omega), e1, zb_s]
  have g1 : M5 6 1 1 = nI 0 := by rw [e5, zb_j _ _ _ _ (by omega), e4, zb_j _ _ _ _ (by omega), e3, zb_j _ _ _ _ (by omega), e2, zb_s]
  have g2 : M5 6 1 2 = nI 0 := by rw [e5, zb_j _ _ _ _ (by omega), e4, zb_j _ _ _ _ (by omega), e3, zb_s]
  have g3 : M5 6 1 3 = nI 0 := by rw [e5, zb_j _ _ _ _ (by omega), e4, zb_s]
  have g4 : M5 6 1 4 = nI 0 := by rw [e5, zb_s]
  refine hQ M6 (fun a b q => funext fun i => ?_) ⟨⟨?_, ?_, ?_, ?_, fun i hi => absurd hi (Nat.not_lt_zero _), fun i hi => absurd hi (Nat.not_lt_zero _)⟩, ?_, h1, fun c hc => absurd hc (Nat.not_lt_zero _), ⟨fun i hi => ?_, fun i hi => ?_⟩⟩
  · rw [h2 a b i (by omega), f5 a b i (by omega)]
  · rw [h2 6 1 0 (by omega)]; exact g0
  · rw [h2 6 1 1 (by omega)]; exact g1
  · rw [h2 6 1 2 (by omega)]; exact g2
  · rw [h2 6 1 3 (by omega)]; exact g3
  · rw [h2 6 1 4 (by omega)]; exact g4
  · rw [h2 10 1 i (by omega), f5 10 1 i (by omega)]; exact hb.1 i hi
  · rw [h2 18 1 i (by omega), f5 18 1 i (by omega)]; exact hb.2 i hi
section CI
variable {M : gh_M} {n : Nat} {p : Nat → Int32} {Q : Int32 → gh_M → Prop}
theorem c_read (hT : cTap M n p) (hb : bo M 1)
    (hQ1 : ∀ M' nc, fD M M' → (rdA n p).1.1 = 0 → cR M' n p (rdA n p).1 → 4 ≤ nc ∧ nc ≤ 12 → drC M' (rdA n p).2.2.2 (rdA n p).2.1 (rdA n p).2.2.1 → drO (rdA n p).2.2.2 nc (rdA n p).2.1 (rdA n p).2.2.1 → (1 ≤ (rdA n p).2.1 ∧ (rdA n p).2.1 ≤ 5 ∧ 1 ≤ (rdA n p).2.2.1 ∧ (rdA n p).2.2.1 ≤ 6) → Q (nI 1) M')
    (hQ0 : ∀ M', fD M M' → (rdA n p).1.1 ≠ 0 → cR M' n p (rdA n p).1 → bo M' 1 → Q (nI 0) M') : wp_X4_readInto 1 M Q := by
  unfold wp_X4_readInto
  rintro M1 e1 M2 e2
  have f2 : fk 4 M M2 := by rw [e2, e1]; exact fk.refl.st.st
  have hb2 : bo M2 1 := by
    unfold bo at hb ⊢
    rw [f2 10 1 (by omega), f2 18 1 (by omega)]
    exact hb
  have r2 : cR M2 n p (0, 0) := by
    refine ⟨hT.1, ?_, fun i hi => ?_, ?_, ?_, Nat.zero_le _, by show (0 : Nat) ≤ 3; omega⟩
    · rw [e2, zb_j _ _ _ _ (by omega), e1, zb_j _ _ _ _ (by omega)]; exact hT.2.1
    · rw [f2 5 0 (by omega)]; exact hT.2.2 i hi
    · rw [e2, zb_s]
    · rw [e2, zb_j _ _ _ _ (by omega), e1, zb_s]
  refine c_clear hb2 (fun M3 f3 d3 => ?_)
  have r3 : cR M3 n p (0, 0) := r2.mv (fun a q => f3 a 0 (by omega))
  have D3 : fD M M3 := fun a b q r => (f3 a b q).trans (f2 a b r)
  unfold wp_X4_readLaw
  refine c_sgn (by decide) r3 (fun M4 f4 r4 => ?_)
  have d4 := d3.f4 f4
  by_cases q1 : (sgP n p (nI 103) (0, 0)).1 = 0
  · rw [if_pos q1]
    refine ⟨fun _ => ?_, fun g => absurd g (by decide)⟩
    refine c_num r4 (fun M5 f5 r5 => ?_)
    have d5 := d4.f4 f5
    rintro M6 e6
    have f6 : ft 1 M5 M6 := by rw [e6]; exact ft.refl.st (by omega) (by omega)
    have r6 : cR M6 n p (lwN n p).2 := r5.mv (fun a q => f6 a 0 (by omega))
    have d6 : drC M6 (upd T00 0 (lwN n p).1) 0 0 := by
      obtain ⟨⟨s0, s1, s2, s3, hk, hc⟩, hR, hI, hK, hb⟩ := d5
      refine ⟨⟨?_, ?_, ?_, ?_, fun i hi => absurd hi (Nat.not_lt_zero _), fun i hi => absurd hi (Nat.not_lt_zero _)⟩, ?_, fun i hi => ?_, fun c hc => absurd hc (Nat.not_lt_zero _), ⟨fun i hi => ?_, fun i hi => ?_⟩⟩
      · rw [e6, zb_s, pk_us]; rfl
      · rw [e6, zb_j _ _ _ _ (by omega), pk_un (by omega)]; exact s1
      · rw [e6, zb_j _ _ _ _ (by omega), pk_un (by omega)]; exact s2
      · rw [e6, zb_j _ _ _ _ (by omega), pk_un (by omega)]; exact s3
      · rw [e6, zb_j _ _ _ _ (by omega)]; exact hR
      · rw [e6, zb_k _ _ _ _ _ _ (by omega)]; exact hI i hi
      · rw [e6, zb_k _ _ _ _ _ _ (by omega)]; exact hb.1 i hi
      · rw [e6, zb_k _ _ _ _ _ _ (by omega)]; exact hb.2 i hi
    have D6 : fD M M6 := ((D3.f4 f4).f4 f5).f1 f6
    refine c_sgn (by decide) r6 (fun M7 f7 r7 => ?_)
    have d7 := d6.f4 f7
    have D7 := D6.f4 f7
    have r7 : cR M7 n p (lwS n p) := r7
    by_cases q2 : (lwS n p).1 = 0
    · have q2' : (sgP n p (nI 59) (lwN n p).2).1 = 0 := q2
      have eA : rdA n p = rdF n p ((lwN n p).1 - nI 1) 12 0 0 (lwS n p).2 (upd T00 0 (lwN n p).1) := by unfold rdA; rw [if_pos q2]
      rw [if_pos q2']
      refine ⟨by decide, fun g => absurd g (by decide), fun _ => ?_⟩
      obtain ⟨nc, n4, n12, en⟩ := lw_ok q2
      have es : lwS n p = (0, (lwS n p).2) := Prod.ext q2 rfl
      rw [es] at r7
      refine ⟨12, c_tricks_l (nc := nc) (A := rdA n p) (M0 := M) (hi := (lwN n p).1 - nI 1) (by rw [en]) (fun f nt i M8 T h1 h2 h3 h4 h5 h6 h7 h8 h9 => ?_) (fun M8 h1 h2 h3 h4 => ?_) 12 0 (lwS n p).2 M7 _ (by omega) (by omega) D7 r7 d7 (by rw [en]; exact drO0) eA.symm⟩
      · refine ⟨fun g => absurd g (by decide), fun _ => ⟨f, c_cars_l (nc := nc) (A := rdA n p) (M0 := M) (hi := (lwN n p).1 - nI 1) h1 h2 (fun M9 k1 k2 k3 k4 k5 k6 => ?_) (fun M9 k1 k2 k3 k4 => ?_) f 0 i M8 T (by omega) (by omega) h4 h5 h6 h7 (fun _ => h8) h9⟩⟩
        · exact ⟨fun g => absurd g (by decide), fun _ => hQ1 M9 nc k1 k2 k3 ⟨n4, n12⟩ k4 k5 k6⟩
        · exact ⟨fun _ => hQ0 M9 k1 k2 k3 k4, fun g => absurd rfl g⟩
      · exact ⟨fun _ => hQ0 M8 h1 h2 h3 h4, fun g => absurd rfl g⟩
    · have q2' : ¬ (sgP n p (nI 59) (lwN n p).2).1 = 0 := q2
      have eA : rdA n p = (lwS n p, 0, 0, T00) := by unfold rdA; rw [if_neg q2]
      rw [if_neg q2']
      refine ⟨by decide, fun _ => ?_, fun g => absurd rfl g⟩
      exact hQ0 M7 D7 (by rw [eA]; exact q2) (by rw [eA]; exact r7) d7.2.2.2.2
  · rw [if_neg q1]
    have es := lwS_bad q1
    have q2 : ¬ (lwS n p).1 = 0 := by rw [es]; exact q1
    have eA : rdA n p = (lwS n p, 0, 0, T00) := by unfold rdA; rw [if_neg q2]
    refine ⟨fun g => absurd rfl g, fun _ => ⟨fun _ => ?_, fun g => absurd rfl g⟩⟩
    exact hQ0 M4 (D3.f4 f4) (by rw [eA]; exact q2) (by rw [eA, es]; exact r4) d4.2.2.2.2
end CI
section RI
variable {M : gh_M} {n : Nat} {p : Nat → Int32}
theorem r_read {Q : gh_M → Prop} (hR : rR M n p (0, 0)) (hr : rr M 1917 T00) (hQ : ∀ M', fs M M' → rR M' n p (rdA n p).1 → ((rdA n p).1.1 = 0 → rr M' 1917 (rdA n p).2.2.2) → Q M') : wp_X7_readAll M Q := by
  unfold wp_X7_readAll
  refine r_sgn (by decide) hR (fun M2 q2 r2 => r_num r2 (fun v M3 q3 r3 v3 => ⟨vp_in_nI (by omega) (by omega), ?_⟩))
  rw [nI_clamp (by omega)]
  rintro M4 e4
  have r4 : rR M4 n p (lwN n p).2 := by rw [e4]; exact r3.s33
  have t4 := ((hr.q q2).q q3).s33 (q := 1917) (j := 0) (v := v) (by omega)
  rw [← e4] at t4
  have f4 : fs M M4 := by rw [e4]; exact (q2.fs.tr q3.fs).r33 (by omega)
  refine r_sgn (by decide) r4 (fun M5 q5 r5 => ?_)
  have r5 : rR M5 n p (lwS n p) := r5
  have t5 := t4.q q5
  have f5 := f4.tr q5.fs
  refine r_fine r5 ?_
  by_cases q : (lwS n p).1 = 0
  · rw [if_pos q]
    obtain ⟨nc, n4, n12, en⟩ := lw_ok q
    have ev : v = (lwN n p).1 := v3 (sgP_ok q)
    have eA : rdA n p = rdF n p ((lwN n p).1 - nI 1) 12 0 0 (lwS n p).2 (upd T00 0 (lwN n p).1) := by unfold rdA; rw [if_pos q]
    have es : lwS n p = (0, (lwS n p).2) := Prod.ext q rfl
    rw [es] at r5
    rw [ev] at t5
    exact ⟨13, r_loop (nc := nc) (A := rdA n p) (M0 := M) (hi := (lwN n p).1 - nI 1) (by rw [en]) hQ 12 0 0 (lwS n p).2 M5 _ (by omega) (by omega) (by omega) f5 r5 t5 (by rw [en]; exact drO0) (by omega) eA.symm⟩
  · rw [if_neg q]
    have eA : rdA n p = (lwS n p, 0, 0, T00) := by unfold rdA; rw [if_neg q]
    exact ⟨1, wl32_0 (hQ M5 f5 (by rw [eA]; exact r5) (fun z => absurd (by rw [eA] at z; exact z) q))⟩
theorem r_zero {M0 : gh_M} {Q : Int32 → gh_M → Prop} (hQ : ∀ M', fs M0 M' → (∀ a b i, a = 32 → M' a b i = M0 a b i) → rr M' 1917 T00 → wp_X7_readAll M' (fun M5 => ∀ M6, M6 = (gh_st M5 32 0 8 (nI 0)) → wp_X7_fine M6 (fun r7 M8 => ((¬ r7 = 0 → wp_X7_copyRow (nI 1917) (nI 0) M8 (fun M11 => ∀ M12, M12 = (gh_st M11 32 0 1 (nI 0)) → (vp_in (nI 1) 1988 ∧ Q (M12 33 0 (nI 1).toNatClampNeg) M12))) ∧ (r7 = 0 → ∀ M14, M14 = (gh_st M8 32 0 9 (M8 32 0 17)) → Q ((-1000100 : Int32) - (M14 32 0 18)) M14))))) :
    ∀ (r k : Nat) (M : gh_M), k + r = 71 → fs M0 M → (∀ a b i, a = 32 → M a b i = M0 a b i) → (∀ i, i < k → M 33 0 (1917 + i) = nI 0) → wl_X7_train_12 Q (r + 1) (nI k) M := by
  intro r
  induction r with
  | zero =>
    intro k M hk h1 h2 h3
    have e : k = 71 := by omega
    subst e
    unfold wl_X7_train_12
    exact ⟨fun _ => hQ M h1 h2 h3, fun h => absurd (Int32.le_refl _) h⟩
  | succ r ih =>
    intro k M hk h1 h2 h3
    unfold wl_X7_train_12
    simp (disch := omega) only [nI_add, nI_clamp, zb_in, true_and]
    refine ⟨fun h => absurd h (nI_ge (by omega) (by omega)), fun _ => ?_⟩
    rintro _ rfl _ rfl
    refine ih (k + 1) _ (by omega) (h1.r33 (by omega)) (fun a b i q => ?_) (fun i hi => ?_)
    · rw [zb_k _ _ _ _ _ _ (by omega)]; exact h2 a b i q
    · by_cases e : i = k
      · subst e; rw [zb_s]
      · rw [zb_j _ _ _ _ (by omega)]; exact h3 i (by omega)
end RI
theorem CS.st08 {M : gh_M} {S : SS} (h : CS M S) (v : Int32) : CS (gh_st M 0 0 8 v) (S.1, S.2.1, (v, S.2.2.1.2), S.2.2.2) := by
  obtain ⟨h0, h1, h2, h3, h4, h5, h6, h7, h8, h9⟩ := h
  have e : ∀ a b, a ≠ 0 → gh_st M 0 0 8 v a b = M a b := fun a b q => zb_kr _ _ _ _ _ q
  refine ⟨fun t ht => ?_, h1.mv (fun a b q => e a b (by omega)), ?_, zb_s _ _ _ _ _, ?_, ?_, h6.mv (fun a q1 q2 => e a 0 (by omega)), h7.mv (fun a t q1 q2 q3 q4 => e a t (by omega)) (e 21 0 (by omega)), h8.mv (fun a t q1 q2 q3 q4 => e a t (by omega)), h9.mv ?_ ?_ ?_⟩
  · have := h0 t ht
    unfold bo at this ⊢
    rw [e 10 t (by omega), e 18 t (by omega)]
    exact this
  · unfold cTap at h2 ⊢
    rw [e 4 0 (by omega), e 5 0 (by omega)]
    exact h2
  · rw [zb_j _ _ _ _ (by omega)]; exact h4
  · unfold cTrc at h5 ⊢
    rw [e 30 0 (by omega), e 31 0 (by omega)]
    exact h5
  · rw [e 24 0 (by omega)]
  · rw [e 24 0 (by omega)]
  · rw [e 26 0 (by omega)]
theorem RS.st9 {M : gh_M} {S : SS} (h : RS M S) (v : Int32) : RS (gh_st M 32 0 9 v) (S.1, S.2.1, (v, S.2.2.1.2), S.2.2.2) := by
  obtain ⟨h1, h2, h3, h4, h5, h6, h7, h8⟩ := h
  have e : ∀ a b i, a ≠ 32 → gh_st M 32 0 9 v a b i = M a b i := fun a b i q => zb_k _ _ _ _ _ _ q
  have er : ∀ x T, rr M x T → rr (gh_st M 32 0 9 v) x T := fun x T g i hi => (e 33 0 (x + i) (by omega)).trans (g i hi)
  refine ⟨h1.mv (fun a i q => e a 0 i (by omega)), ⟨?_, fun i hi => ?_⟩, zb_s _ _ _ _ _, ?_, ⟨?_, fun i hi => ?_⟩, ?_, ⟨?_, fun i hi => er _ _ (h7.2 i hi)⟩, ⟨?_, fun k hk X hX => er _ _ (h8.2 k hk X hX)⟩⟩
  · rw [zb_j _ _ _ _ (by omega)]; exact h2.1
  · rw [e 37 0 i (by omega)]; exact h2.2 i hi
  · rw [zb_j _ _ _ _ (by omega)]; exact h4
  · rw [zb_j _ _ _ _ (by omega)]; exact h5.1
  · rw [e 41 0 i (by omega)]; exact h5.2 i hi
  · unfold rTrn at h6 ⊢
    show match S.2.2.2.2.1 with
      | none => gh_st M 32 0 9 v 33 0 0 = nI 0 ∧ gh_st M 32 0 9 v 33 0 1 = nI 0 ∧ gh_st M 32 0 9 v 33 0 2 = nI 0 ∧ gh_st M 32 0 9 v 33 0 3 = nI 0
      | some X => rr (gh_st M 32 0 9 v) 0 X.1
    cases q : S.2.2.2.2.1 with
    | none =>
      rw [q] at h6
      simp only [e 33 0 _ (by decide : (33 : Nat) ≠ 32)]
      exact h6
    | some X => rw [q] at h6; exact er _ _ h6
  · rw [zb_j _ _ _ _ (by omega)]; exact h7.1
  · rw [zb_j _ _ _ _ (by omega)]; exact h8.1
theorem cs_dr {M M' : gh_M} {S : SS} {n : Nat} {p : Nat → Int32} (hC : CS M S) (e : ∀ a b, ¬ (b = 1 ∧ 6 ≤ a ∧ a ≤ 20) → a ≠ 4 → M' a b = M a b) (hb : bo M' 1) (hT : cTap M' n p) : CS M' (stP S n p) := by
  obtain ⟨h0, h1, h2, h3, h4, h5, h6, h7, h8, h9⟩ := hC
  refine ⟨fun t ht => ?_, h1.mv (fun a b q => e a b (by omega) (by omega)), hT, ?_, ?_, ?_, h6.mv (fun a q1 q2 => e a 0 (by omega) (by omega)), h7.mv (fun a t q1 q2 q3 q4 => e a t (by omega) (by omega)) (e 21 0 (by omega) (by omega)), h8.mv (fun a t q1 q2 q3 q4 => e a t (by omega) (by omega)), h9.mv ?_ ?_ ?_⟩
  · by_cases q : t = 1
    · subst q; exact hb
    · have := h0 t ht
      unfold bo at this ⊢
      rw [e 10 t (by omega) (by omega), e 18 t (by omega) (by omega)]
      exact this
  · rw [e 0 0 (by omega) (by omega)]; exact h3
  · rw [e 0 0 (by omega) (by omega)]; exact h4
  · unfold cTrc at h5 ⊢
    rw [e 30 0 (by omega) (by omega), e 31 0 (by omega) (by omega)]
    exact h5
  · rw [e 24 0 (by omega) (by omega)]
  · rw [e 24 0 (by omega) (by omega)]
  · rw [e 26 0 (by omega) (by omega)]
/-- what was read whole is a train -/
theorem dr_tr {M : gh_M} {T : TT} {nc nt na : Nat} (hC : drC M T nt na) (hO : drO T nc nt na) (hc : 4 ≤ nc ∧ nc ≤ 12) (hb : 1 ≤ nt ∧ nt ≤ 5 ∧ 1 ≤ na ∧ na ≤ 6) : trOK (T, (nc, nt, na), fun c => (T (29 + 7 * c + 2)).toNatClampNeg) ∧ ctr M 1 (T, (nc, nt, na), fun c => (T (29 + 7 * c + 2)).toNatClampNeg) := by
  obtain ⟨h0, h1, h2, h3, h4, h5, h6⟩ := hO
  obtain ⟨hd, hR, hI, hK, hbo⟩ := hC
  have hp : ∀ c, c < na → T (29 + 7 * c + 2) = nI (T (29 + 7 * c + 2)).toNatClampNeg ∧ (T (29 + 7 * c + 2)).toNatClampNeg ≤ 3 := fun c q => by
    obtain ⟨k, k1, k2⟩ := (h5 c q).1
    rw [k2, nI_clamp (by omega)]
    exact ⟨rfl, k1⟩
  have hcn : cnt T na = 0 := by
    unfold cnt
    refine fb_ct_zero.mpr (fun c q => ?_)
    unfold rn
    have := (h5 c q).2
    rw [this]
    decide
  refine ⟨⟨⟨h0, h1, h2, hc.2, hb.2.1, hb.2.2.2, hp⟩, hc.1, hb.1, hb.2.2.1, 0, by omega, h3, fun c q => ⟨0, by omega, (h6 c (by have q : c < na := q; omega)).2.1⟩⟩, ⟨M 20 1, ⟨hd, ?_, fun _ => rfl, fun _ => rfl, hbo, ft.refl⟩, fun j hj => Or.inl ⟨hI j (by have hj : j < nc := hj; omega), fun c q _ e => ?_⟩, ?_⟩, hK⟩
  · show M 6 1 4 = nI (cnt T na)
    rw [hcn]; exact hR
  · have hj : j < nc := hj
    have e : T (29 + 7 * c + 3) = nI j := e
    rw [(h5 c q).2] at e
    have := zb_nI_inj e (by omega) (by omega)
    omega
  · refine ⟨fun t q => (h4 t q).1, fun t q => Or.inr (h4 t q).2.1, fun t q => ⟨0, by omega, (h4 t q).2.2⟩, fun c q => Or.inr (Or.inl (h5 c q).2), fun c d q1 q2 _ _ => ?_, fun c q => Or.inl (h6 c (by have q : c < na := q; omega)).2.2⟩
    show nI 20 ≤ T (29 + 7 * c + 3)
    rw [(h5 c q1).2]
    exact Int32.le_refl _
theorem L_train {M : gh_M} {S : SS} (hC : CS M S) (hR : RS M S) : wp_X6_train M (fun r1 M1 => wp_X7_train M1 (fun r2 M2 => r1 = r2 ∧ OKn M2)) := by
  have hT := hC.2.2.1
  have hT2 := hR.2.1
  have n24 := hC.n24
  unfold wp_X6_train wp_X7_train
  -- the reference, from a memory that keeps its part
  have ref : ∀ (M3 : gh_M) (r1 : Int32), fR M M3 → (∀ M5, fs M3 M5 → rR M5 S.2.1.1 S.2.1.2 (rdA S.2.1.1 S.2.1.2).1 → ((rdA S.2.1.1 S.2.1.2).1.1 = 0 → rr M5 1917 (rdA S.2.1.1 S.2.1.2).2.2.2) → ∀ M6, M6 = (gh_st M5 32 0 8 (nI 0)) → wp_X7_fine M6 (fun r7 M8 => ((¬ r7 = 0 → wp_X7_copyRow (nI 1917) (nI 0) M8 (fun M11 => ∀ M12, M12 = (gh_st M11 32 0 1 (nI 0)) → (vp_in (nI 1) 1988 ∧ r1 = (M12 33 0 (nI 1).toNatClampNeg) ∧ OKn M12))) ∧ (r7 = 0 → ∀ M14, M14 = (gh_st M8 32 0 9 (M8 32 0 17)) → r1 = ((-1000100 : Int32) - (M14 32 0 18)) ∧ OKn M14)))) → ∀ M1, M1 = (gh_st M3 32 0 16 (nI 0)) → ∀ M2, M2 = (gh_st M1 32 0 17 (nI 0)) → ∃ k, wl_X7_train_12 (fun r2 M2 => r1 = r2 ∧ OKn M2) k (nI 0) M2 := by
    intro M3 r1 hf hQ M4 e4 M5 e5
    have f5 : fs M3 M5 := fun a b i q1 q2 q3 => by rw [e5, zb_st, if_neg (by omega), e4, zb_st, if_neg (by omega)]
    refine ⟨72, r_zero (M0 := M5) (fun M6 g1 g2 g3 => ?_) 71 0 M5 (by omega) fs.refl (fun _ _ _ _ => rfl) (fun i hi => absurd hi (Nat.not_lt_zero _))⟩
    have r6 : rR M6 S.2.1.1 S.2.1.2 (0, 0) := by
      refine ⟨hT.1, ?_, fun i hi => ?_, ?_, fun _ => ?_, fun q => absurd rfl q, Nat.zero_le _, by show (0 : Nat) ≤ 3; omega⟩
      · rw [g2 32 0 8 rfl, f5 32 0 8 (by omega) (by omega) (by omega), hf 32 0 (by omega)]; exact hT2.1
      · rw [g1 37 0 i (by omega) (by omega) (by omega), f5 37 0 i (by omega) (by omega) (by omega), hf 37 0 (by omega)]; exact hT2.2 i hi
      · rw [g2 32 0 17 rfl, e5, zb_s]
      · rw [g2 32 0 16 rfl, e5, zb_j _ _ _ _ (by omega), e4, zb_s]
    exact r_read r6 g3 (fun M7 h1 h2 h3 => hQ M7 ((f5.tr g1).tr h1) h2 h3)
  refine c_read hT (hC.1 1 (by omega)) (fun M2 nc D ok r2 hnc dC dO hb => ?_) (fun M2 D bad r2 hbo => ?_)
  · -- all was read
    rintro M3 e3
    refine ⟨fun _ => ?_, fun g => absurd g (by decide)⟩
    have f3 : fk 4 M2 M3 := by rw [e3]; exact fk.refl.st
    have D3 := D.f4 f3
    obtain ⟨hk, hz⟩ := dr_tr (dC.f4 f3) dO hnc hb
    have hC3 : CS M3 (stP S 0 S.2.1.2) := cs_dr hC D3 (dC.f4 f3).2.2.2.2 ⟨by omega, by rw [e3, zb_s], fun i hi => absurd hi (Nat.not_lt_zero _)⟩
    refine c_bec (by omega) (by omega) hC3 hk hz (fun M4 hC4 fR4 z4 => ?_)
    have fR4' : fR M M4 := fun a b q => (fR4 a b q).trans (D3 a b (by omega) (by omega))
    have et : M4 6 0 1 = nI (rdA S.2.1.1 S.2.1.2).2.1 := by rw [z4.1.cd.2.1]; exact dO.2.1
    refine ref M4 _ fR4' (fun M5 g1 g2 g3 => ?_)
    rintro M6 e6
    have r6 : M6 32 0 17 = nI 0 := by rw [e6, zb_j _ _ _ _ (by omega), g2.2.2.2.1, ok]
    have t6 : rr M6 1917 (rdA S.2.1.1 S.2.1.2).2.2.2 := by rw [e6]; exact (g3 ok).s32
    unfold wp_X7_fine
    rw [r6]
    refine ⟨fun g => absurd rfl g, fun _ => ⟨fun _ => ?_, fun g => absurd g (by decide)⟩⟩
    refine r_copyRow (x := 1917) (y := 0) (by omega) (by omega) (by omega) (fun M7 h1 h2 => ?_)
    rintro M8 e8
    refine ⟨vp_in_nI (by omega) (by omega), ?_, ?_⟩
    · rw [nI_clamp (by omega), et, e8, zb_k _ _ _ _ _ _ (by omega), show (1 : Nat) = 0 + 1 from rfl, h1 1 (by omega), t6 1 (by omega)]
      exact dO.2.1.symm
    · refine ⟨stA (stP S 0 S.2.1.2) _ 0 S.2.2.2.2.2.1.2, hC4.fC (fun a b q => funext fun i => ?_), ?_⟩
      · rw [e8, zb_k _ _ _ _ _ _ (by omega), h2 a b i (by omega), e6, zb_k _ _ _ _ _ _ (by omega), g1 a b i (by omega) (by omega) (by omega)]
      · have hR5 : RS M5 S := (hR.fR fR4' n24).fs g1 n24
        have hR6 : RS M6 (stP S 0 S.2.1.2) := hR5.tap ⟨by rw [e6, zb_s], fun i hi => absurd hi (Nat.not_lt_zero _)⟩ (fun a b i q1 q2 => by rw [e6, zb_st, if_neg (by omega)])
        refine hR6.set (n := 0) (fun a b i q1 q2 => ?_) (fun i hi => ?_) (by rw [e8, zb_s]) (Nat.zero_le _)
        · rw [e8, zb_st, if_neg (by omega), h2 a b i (by omega)]
        · rw [e8, zb_k _ _ _ _ _ _ (by omega), h1 i hi]
          exact t6 i hi
  · -- a fault
    rintro M3 e3
    refine ⟨fun g => absurd rfl g, fun _ => ?_⟩
    rintro M4 e4
    have f3 : fk 4 M2 M3 := by rw [e3]; exact fk.refl.st
    have D3 := D.f4 f3
    have hb3 : bo M3 1 := by
      unfold bo at hbo ⊢
      rw [f3 10 1 (by omega), f3 18 1 (by omega)]
      exact hbo
    have hC3 : CS M3 (stP S 0 S.2.1.2) := cs_dr hC D3 hb3 ⟨by omega, by rw [e3, zb_s], fun i hi => absurd hi (Nat.not_lt_zero _)⟩
    have e43 : M3 4 0 3 = nI (rdA S.2.1.1 S.2.1.2).1.1 := by rw [e3, zb_j _ _ _ _ (by omega)]; exact r2.2.2.2.1
    have e42 : M4 4 0 2 = nI (rdA S.2.1.1 S.2.1.2).1.2 := by rw [e4, zb_k _ _ _ _ _ _ (by omega), e3, zb_j _ _ _ _ (by omega)]; exact r2.2.2.2.2.1
    rw [e43] at e4
    rw [e42]
    have fR4 : fR M M4 := fun a b q => by rw [e4, zb_kr _ _ _ _ _ (by omega)]; exact D3 a b (by omega) (by omega)
    have hC4 : CS M4 (S.1, (0, S.2.1.2), (nI (rdA S.2.1.1 S.2.1.2).1.1, S.2.2.1.2), S.2.2.2) := by rw [e4]; exact hC3.st08 _
    refine ref M4 _ fR4 (fun M5 g1 g2 g3 => ?_)
    rintro M6 e6
    have r6 : M6 32 0 17 = nI (rdA S.2.1.1 S.2.1.2).1.1 := by rw [e6, zb_j _ _ _ _ (by omega), g2.2.2.2.1]
    have b3 := g2.2.2.2.2.2.2.2
    unfold wp_X7_fine
    rw [r6]
    refine ⟨fun _ => ⟨fun g => absurd rfl g, fun _ => ?_⟩, fun g => absurd g (nI_ne0 (by omega) (by omega))⟩
    rintro M7 e7
    rw [r6] at e7
    refine ⟨?_, (S.1, (0, S.2.1.2), (nI (rdA S.2.1.1 S.2.1.2).1.1, S.2.2.1.2), S.2.2.2), hC4.fC (fun a b q => funext fun i => ?_), ?_⟩
    · rw [e7, zb_j _ _ _ _ (by omega), e6, zb_j _ _ _ _ (by omega), g2.2.2.2.2.2.1 bad]
    · rw [e7, zb_k _ _ _ _ _ _ (by omega), e6, zb_k _ _ _ _ _ _ (by omega), g1 a b i (by omega) (by omega) (by omega)]
    · have hR5 : RS M5 S := (hR.fR fR4 n24).fs g1 n24
      have hR6 : RS M6 (stP S 0 S.2.1.2) := hR5.tap ⟨by rw [e6, zb_s], fun i hi => absurd hi (Nat.not_lt_zero _)⟩ (fun a b i q1 q2 => by rw [e6, zb_st, if_neg (by omega)])
      rw [e7]
      exact hR6.st9 _
