-- AGAIN, TICKS, UNDO, IMAGE, RESTORE
theorem trOK.ag {X : TR} (h : trOK X) {c : Nat} (hc : c < 6) : trOK (sp_ag X.1 c, X.2) :=
  ((h.up (i := 29 + 7 * c + 3) (v := nI 20) (by omega) (fun d hd => by omega)).up (i := 29 + 7 * c + 4) (v := nI 0) (by omega) (fun d hd => by omega)).up (i := 29 + 7 * c + 6) (v := nI 0) (by omega) (fun d hd => by omega)
theorem trOK.hd {X : TR} (h : trOK X) : sp_hd X.1 X.2.1.1 X.2.1.2.1 X.2.1.2.2 X.2.2 := h.1
theorem L_again {a0 : Int32} {M : gh_M} {S : SS} (hC : CS M S) (hR : RS M S) : wp_X6_again a0 M (fun r1 M1 => wp_X7_again a0 M1 (fun r2 M2 => r1 = r2 ∧ OKn M2)) := by
  have hOK : OKn M := ⟨S, hC, hR⟩
  have hT := hC.2.2.2.2.2.2.1
  have hT2 := hR.2.2.2.2.2.1
  obtain ⟨e0, e1, e2, b0, b1, b2⟩ := hT.hd
  obtain ⟨f0, f1, f2⟩ := hT2.hd hT.ok
  unfold wp_X6_again wp_X7_again
  rcases ix a0 (ona S.2.2.2.2.1) (by omega) with ⟨u, hu, rfl⟩ | hb
  · refine c_isCy e2 hu (by omega) ?_
    simp only [z1, not_false_eq_true, t01, false_implies, true_and, and_true]
    cases hX : S.2.2.2.2.1 with
    | none => rw [hX] at hu; exact absurd hu (Nat.not_lt_zero _)
    | some X =>
      rw [hX] at e0 e1 e2 f0 f1 f2 b0 b1 b2 hu
      have hu' : u < X.2.1.2.2 := hu
      have b0' : X.2.1.1 ≤ 12 := b0
      have b1' : X.2.1.2.1 ≤ 5 := b1
      have b2' : X.2.1.2.2 ≤ 6 := b2
      obtain ⟨hk, hz, h19⟩ := hC.trn hX
      have hd := hz.cd
      have hr := hR.trn hX
      simp (disch := omega) only [nI_clamp, zb_in, true_and, hd.c3]
      refine ⟨fun he => ?_, fun hne => ?_⟩
      · refine c_begin hC hX (fun M2 hC2 z6 fr => ?_)
        have hX2 : (actS S X).2.2.2.2.1 = some X := hX
        obtain ⟨hk2, hz2, h192⟩ := hC2.trn hX2
        refine c_ag b1' b2' b0' hu' he hz2 (fun M3 hz3 => ?_)
        have hk3 := hk.ag (c := u) (by omega)
        have hC3 := hC2.tz hX2 hz3 hk3 z6
        have fr3 : fR M M3 := fr.tr hz3.ft.fR
        have hR3 := hR.fR fr3 hC.n24
        refine c_wait hz3.cd hk3.hd.2.2.1 b2' ?_
        have hr3 := hR3.trn hX
        refine r_isCy ((fr3 33 0 (by omega) ▸ f2)) hu (by omega) ?_
        simp only [z1, not_false_eq_true, t01, false_implies, true_and, and_true]
        unfold wp_X7_carAt
        simp (disch := omega) only [nI_add, pk_mul, nI_clamp, zb_in, true_and]
        rw [hr3.at0 (i := 29 + 7 * u + 3) (by omega) (by omega)]
        refine ⟨fun _ => ?_, fun z => absurd he z⟩
        refine r_rem hR3 hX hC.n24 (fun M4 hR4 fr4 => ?_)
        unfold wp_X7_goesAgain wp_X7_carAt
        simp (disch := omega) only [nI_add, pk_mul, nI_clamp, zb_in, true_and]
        rintro _ rfl _ rfl _ rfl
        have hr4 := ((fr4.rr hr3).st (q := 0 + 29 + 7 * u + 3) (i := 29 + 7 * u + 3) (v := nI 20) (by omega)).st (q := 0 + 29 + 7 * u + 4) (i := 29 + 7 * u + 4) (v := nI 0) (by omega)
        have hr5 := hr4.st (q := 0 + 29 + 7 * u + 6) (i := 29 + 7 * u + 6) (v := nI 0) (by omega)
        have hR5 := hR4.tr (X := (sp_ag X.1 u, X.2)) (M' := gh_st (gh_st (gh_st M4 33 0 (0 + 29 + 7 * u + 3) (nI 20)) 33 0 (0 + 29 + 7 * u + 4) (nI 0)) 33 0 (0 + 29 + 7 * u + 6) (nI 0)) (fun a b i q1 q2 q3 => by rw [zb_st, if_neg (by omega), zb_st, if_neg (by omega), zb_st, if_neg (by omega)]) hr5
        have hC5 := hC3.fC (((fr4.fC.st (k := 33) (t := 0) (j := 0 + 29 + 7 * u + 3) (v := nI 20) (by omega)).st (k := 33) (t := 0) (j := 0 + 29 + 7 * u + 4) (v := nI 0) (by omega)).st (k := 33) (t := 0) (j := 0 + 29 + 7 * u + 6) (v := nI 0) (by omega))
        exact r_that (x := 0) (how := 1) (by omega) hr5 hk3.hd.2.2.1 b2' (by omega) ⟨rfl, _, hC5, hR5⟩
      · refine r_isCy f2 hu (by omega) ?_
        simp only [z1, not_false_eq_true, t01, false_implies, true_and, and_true]
        unfold wp_X7_carAt
        simp (disch := omega) only [nI_add, pk_mul, nI_clamp, zb_in, true_and]
        rw [hr.at0 (i := 29 + 7 * u + 3) (by omega) (by omega)]
        exact ⟨fun z => absurd z hne, fun _ => hOK⟩
  · refine c_isCn e2 hb ?_
    simp only [z0, not_true_eq_false, t01, false_implies, true_and, and_true]
    refine r_isCn f2 hb ?_
    simp only [z0, not_true_eq_false, t01, false_implies, true_and, and_true]
    exact hOK
-- TICKS
theorem i_subsub (a b : Int32) : a - (a - b) = b := by
  rw [Int32.sub_eq_add_neg, Int32.neg_sub, Int32.add_comm, Int32.sub_add_cancel]
def idk (k : Nat) : Nat := k
/-- the state after n ticks, each an act -/
def tkS : Nat → SS → TR → SS × TR
  | 0, S, X => (S, X)
  | n + 1, S, X => tkS n (stT (actS S X) (sp_tk X.2.2 idk X.2.1.1 X.2.1.2.1 X.2.1.2.2 X.1, X.2)) (sp_tk X.2.2 idk X.2.1.1 X.2.1.2.1 X.2.1.2.2 X.1, X.2)
theorem trOK.tk {X : TR} (h : trOK X) {k : Nat} (hk : k + 1 ≤ 999) (hb : tbk X.1 X.2.1.2.2 k) : trOK (sp_tk X.2.2 idk X.2.1.1 X.2.1.2.1 X.2.1.2.2 X.1, X.2) ∧ tbk (sp_tk X.2.2 idk X.2.1.1 X.2.1.2.1 X.2.1.2.2 X.1) X.2.1.2.2 (k + 1) := by
  obtain ⟨h1, h2, h4, h5, -⟩ := h
  have h1' := h1
  obtain ⟨k0, k1, k2, b0, b1, b2, k3⟩ := h1'
  have hb2 := hb.tk (pc := X.2.2) (rk := idk) (nc := X.2.1.1) b1 b2 b0
  exact ⟨⟨h1.kp (sp_tk_kp b2 b1 (fun k hk => Nat.lt_of_lt_of_le hk b2) X.1), h2, h4, h5, k + 1, hk, hb2⟩, hb2⟩
theorem actN_le {n : Nat} (h : n ≤ 24) : actN n ≤ 24 := by unfold actN; split <;> omega
theorem c_ticks_l {N : Nat} (hN : N ≤ 24) {Q : Int32 → gh_M → Prop} :
    ∀ (r i k : Nat) (M0 M : gh_M) (S : SS) (X : TR), i + r = N → k + r ≤ 999 → CS M S → S.2.2.2.2.1 = some X → tbk X.1 X.2.1.2.2 k → fR M0 M →
    (∀ M', CS M' (tkS r S X).1 → (tkS r S X).1.2.2.2.2.1 = some (tkS r S X).2 → fR M0 M' → Q (sbit (sp_th (tkS r S X).2.1 3) X.2.1.2.2) M') → wl_X6_ticks_43 Q (r + 1) (nI N) (nI i) M := by
  intro r
  induction r with
  | zero =>
    intro i k M0 M S X hi hk hC hX hb hf hQ
    have : i = N := by omega
    subst this
    unfold wl_X6_ticks_43
    refine ⟨fun _ => ?_, fun h => absurd (Int32.le_refl _) h⟩
    obtain ⟨hk, hz, h19⟩ := hC.trn hX
    exact c_out hz.cd hk.hd.2.2.1 hk.hd.2.2.2.2.2.1 (hQ M hC hX hf)
  | succ r ih =>
    intro i k M0 M S X hi hk hC hX hb hf hQ
    unfold wl_X6_ticks_43
    refine ⟨fun h => absurd h (nI_ge (by omega) (by omega)), fun _ => ?_⟩
    refine c_begin hC hX (fun M2 hC2 z6 fr => ?_)
    have hX2 : (actS S X).2.2.2.2.1 = some X := hX
    obtain ⟨hk2, hz2, h192⟩ := hC2.trn hX2
    refine c_tick (pc := X.2.2) (rk := idk) (fun q hq => ⟨h192 q hq, hq⟩) (by have := hk2.2.1; omega) hk2.hd hz2 (fun M3 hz3 => ?_)
    rintro y rfl
    rw [nI_add]
    obtain ⟨ok3, tb3⟩ := hk2.tk (k := k) (by omega) hb
    exact ih (i + 1) (k + 1) M0 M3 _ _ (by omega) (by omega) (hC2.tz hX2 hz3 ok3 z6) rfl tb3 (hf.tr (fr.tr hz3.ft.fR)) hQ
theorem r_ticks_l {N : Nat} (hN : N ≤ 24) {Q : Int32 → gh_M → Prop} :
    ∀ (r i k : Nat) (M0 M : gh_M) (S : SS) (X : TR), i + r = N → k + r ≤ 999 → RS M S → S.2.2.2.2.1 = some X → trOK X → tbk X.1 X.2.1.2.2 k → S.2.2.2.2.2.1.1 ≤ 24 → fC M0 M → (∀ j, j < 6 → M 34 0 j = nI j) →
    (∀ M', RS M' (tkS r S X).1 → fC M0 M' → Q (sbit (sp_th (tkS r S X).2.1 3) X.2.1.2.2) M') → wl_X7_ticks_46 Q (r + 1) (nI N) (nI i) M := by
  intro r
  induction r with
  | zero =>
    intro i k M0 M S X hi hk hR hX ok hb hn hf h34 hQ
    have : i = N := by omega
    subst this
    unfold wl_X7_ticks_46
    refine ⟨fun _ => ?_, fun h => absurd (Int32.le_refl _) h⟩
    exact r_that (x := 0) (how := 3) (by omega) (hR.trn hX) ok.hd.2.2.1 ok.hd.2.2.2.2.2.1 (by omega) (hQ M hR hf)
  | succ r ih =>
    intro i k M0 M S X hi hk hR hX ok hb hn hf h34 hQ
    unfold wl_X7_ticks_46
    refine ⟨fun h => absurd h (nI_ge (by omega) (by omega)), fun _ => ?_⟩
    refine r_rem hR hX hn (fun M2 hR2 fr => ?_)
    have hX2 : (actS S X).2.2.2.2.1 = some X := hX
    have hr2 := hR2.trn hX2
    have b2 := ok.hd.2.2.2.2.2.1
    have h342 : ∀ j, j < 6 → M2 34 0 j = nI j := fun j hj => (fr 34 0 j (by omega) (by omega)).trans (h34 j hj)
    refine r_tick (x := 0) (M0 := M2) (pc := X.2.2) (rk := idk) (S0 := fun c => X.1 (29 + 7 * c + 5) - M2 36 0 c) (h0 := M2 32 0 5 - bx_sum (fun c => X.1 (29 + 7 * c + 5)) X.2.1.2.2) (by omega) (fun q hq => ⟨h342 q (by omega), hq⟩) ok.hd ⟨hr2, ⟨fun c hc => ?_, ?_⟩, rf.refl⟩ (fun M3 hX3 => ?_)
    · exact (i_subsub _ _).symm
    · exact (Int32.sub_add_cancel _ _).symm
    rintro y rfl
    rw [nI_add]
    obtain ⟨hr3, -, rf3⟩ := hX3
    obtain ⟨ok3, tb3⟩ := ok.tk (k := k) (by omega) hb
    have hR3 := hR2.tr (X := (sp_tk X.2.2 idk X.2.1.1 X.2.1.2.1 X.2.1.2.2 X.1, X.2)) (M' := M3) (fun a b j q1 q2 q3 => rf3 a b j (by omega) q2 (by omega)) hr3
    have fC3 : fC M2 M3 := fun a b q => funext fun j => rf3 a b j (by omega) (by omega) (by omega)
    exact ih (i + 1) (k + 1) M0 M3 _ _ (by omega) (by omega) hR3 rfl ok3 tb3 (actN_le hn) (hf.tr (fr.fC.tr fC3)) (fun j hj => (rf3 34 0 j (by omega) (by omega) (by omega)).trans (h342 j hj)) hQ
theorem L_ticks {a0 : Int32} {M : gh_M} {S : SS} (hC : CS M S) (hR : RS M S) : wp_X6_ticks a0 M (fun r1 M1 => wp_X7_ticks a0 M1 (fun r2 M2 => r1 = r2 ∧ OKn M2)) := by
  have hOK : OKn M := ⟨S, hC, hR⟩
  have hT := hC.2.2.2.2.2.2.1
  have hT2 := hR.2.2.2.2.2.1
  obtain ⟨e0, e1, e2, b0, b1, b2⟩ := hT.hd
  obtain ⟨f0, f1, f2⟩ := hT2.hd hT.ok
  unfold wp_X6_ticks wp_X7_ticks
  cases hX : S.2.2.2.2.1 with
  | none =>
    rw [hX] at e2 f0
    refine c_hasn e2 ?_
    simp only [z0, not_true_eq_false, t01, false_implies, true_and, and_true]
    refine r_hasn f0 ?_
    simp only [z0, not_true_eq_false, t01, false_implies, true_and, and_true]
    exact hOK
  | some X =>
    rw [hX] at e0 e1 e2 f0 f1 f2 b0 b1 b2
    obtain ⟨hk, hz, h19⟩ := hC.trn hX
    have hr := hR.trn hX
    obtain ⟨-, o1, o2, o3, k, kb, tk⟩ := id hk
    refine c_hasy e2 (by exact o3) (by omega) ?_
    simp only [z1, not_false_eq_true, t01, false_implies, true_and, and_true]
    have t3 : M 6 0 3 = nI k := hz.cd.2.2.2.1.trans tk.1
    have r3 : M 33 0 3 = nI k := (hr.at0 (i := 3) (by omega) rfl).trans tk.1
    rcases zb_rng a0 1 24 (by omega) (by omega) with h | h | ⟨N, hN1, hN, rfl⟩
    · refine w6n (Or.inl h) ?_
      simp only [z0, not_true_eq_false, t01, false_implies, true_and, and_true]
      refine r_hasy f0 (by have : 4 ≤ X.2.1.1 := o1; exact Nat.lt_of_lt_of_le (by omega) this) (by omega) ?_
      simp only [z1, not_false_eq_true, t01, false_implies, true_and, and_true]
      refine w7n (Or.inl h) ?_
      simp only [z0, not_true_eq_false, t01, false_implies, true_and, and_true]
      exact hOK
    · refine w6n (Or.inr h.2) ?_
      simp only [z0, not_true_eq_false, t01, false_implies, true_and, and_true]
      refine r_hasy f0 (by have : 4 ≤ X.2.1.1 := o1; exact Nat.lt_of_lt_of_le (by omega) this) (by omega) ?_
      simp only [z1, not_false_eq_true, t01, false_implies, true_and, and_true]
      refine w7n (Or.inr h.2) ?_
      simp only [z0, not_true_eq_false, t01, false_implies, true_and, and_true]
      exact hOK
    · refine w6y (nI_nlt hN1 (by omega)) (nI_nlt hN (by omega)) ?_
      simp only [z1, not_false_eq_true, t01, false_implies, true_and, and_true]
      rw [t3, nI_add]
      refine ⟨fun h9 => ?_, fun h9 => ?_⟩
      · have hkN := (nI_leI (by omega) (by omega)).mp h9
        refine ⟨N + 1, c_ticks_l hN N 0 k M M S X (by omega) hkN hC hX tk fR.refl (fun M2 hC2 hX2 fr2 => ?_)⟩
        have hR2 := hR.fR fr2 hC.n24
        refine r_hasy (fr2 33 0 (by omega) ▸ f0) (by have : 4 ≤ X.2.1.1 := o1; exact Nat.lt_of_lt_of_le (by omega) this) (by omega) ?_
        simp only [z1, not_false_eq_true, t01, false_implies, true_and, and_true]
        refine w7y (nI_nlt hN1 (by omega)) (nI_nlt hN (by omega)) ?_
        simp only [z1, not_false_eq_true, t01, false_implies, true_and, and_true]
        rw [nI_clamp (n := 3) (by omega), fr2 33 0 (by omega), r3, nI_add]
        refine ⟨vp_in_nI (by omega) (by omega), fun _ => ?_, fun z => absurd h9 z⟩
        refine r_rank (fun M3 h34 g3 => ?_)
        have fC3 : fC M2 M3 := fun a b q => funext fun j => g3 a b j (by omega)
        have hR3 := hR2.fsr (M' := M3) (fun a b i q1 q2 q3 q4 => g3 a b i (by omega)) hC.n24
        refine ⟨N + 1, r_ticks_l hN N 0 k M2 M3 S X (by omega) hkN hR3 hX hk tk hC.n24 fC3 h34 (fun M4 hR4 f4 => ⟨rfl, _, hC2.fC f4, hR4⟩)⟩
      · refine r_hasy f0 (by have : 4 ≤ X.2.1.1 := o1; exact Nat.lt_of_lt_of_le (by omega) this) (by omega) ?_
        simp only [z1, not_false_eq_true, t01, false_implies, true_and, and_true]
        refine w7y (nI_nlt hN1 (by omega)) (nI_nlt hN (by omega)) ?_
        simp only [z1, not_false_eq_true, t01, false_implies, true_and, and_true]
        rw [nI_clamp (n := 3) (by omega), r3, nI_add]
        exact ⟨vp_in_nI (by omega) (by omega), fun z => absurd z h9, fun _ => hOK⟩
