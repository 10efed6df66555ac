-- CALLS THAT ONLY READ
theorem gen {M : gh_M} {S : SS} (hC : CS M S) (hR : RS M S) : ∃ T, cd M 0 T (ont S.2.2.2.2.1) (ona S.2.2.2.2.1) ∧ rr M 0 T ∧ T 1 = nI (ont S.2.2.2.2.1) ∧ T 2 = nI (ona S.2.2.2.2.1) := by
  have hT := hC.2.2.2.2.2.2.1
  have hT2 := hR.2.2.2.2.2.1
  generalize S.2.2.2.2.1 = o at *
  cases o with
  | none =>
    obtain ⟨h0, h1, h2, h3⟩ := hT
    obtain ⟨g0, g1, g2, g3⟩ := hT2
    refine ⟨fun i => M 33 0 (0 + i), ⟨?_, ?_, ?_, ?_, fun i hi => absurd hi (Nat.not_lt_zero _), fun i hi => absurd hi (Nat.not_lt_zero _)⟩, fun i _ => rfl, g1, g2⟩
    · exact h0.trans g0.symm
    · exact h1.trans g1.symm
    · exact h2.trans g2.symm
    · exact h3.trans g3.symm
  | some X => exact ⟨X.1, cCd hT.2, hT2, hT.1.1.2.1, hT.1.1.2.2.1⟩
theorem L_fault {M : gh_M} {S : SS} (hC : CS M S) (hR : RS M S) : wp_X6_fault M (fun r1 M1 => wp_X7_fault M1 (fun r2 M2 => r1 = r2 ∧ OKn M2)) :=
  ⟨hC.2.2.2.1.trans hR.2.2.1.symm, S, hC, hR⟩
theorem L_status {M : gh_M} {S : SS} (hC : CS M S) (hR : RS M S) : wp_X6_status M (fun r1 M1 => wp_X7_status M1 (fun r2 M2 => r1 = r2 ∧ OKn M2)) :=
  ⟨hC.2.2.2.2.1.trans hR.2.2.2.1.symm, S, hC, hR⟩
theorem L_trace {a0 : Int32} {M : gh_M} {S : SS} (hC : CS M S) (hR : RS M S) : wp_X6_trace a0 M (fun r1 M1 => wp_X7_trace a0 M1 (fun r2 M2 => r1 = r2 ∧ OKn M2)) := by
  have hOK : OKn M := ⟨S, hC, hR⟩
  obtain ⟨h1, h2, h3⟩ := hC.2.2.2.2.2.1
  obtain ⟨g2, g3⟩ := hR.2.2.2.2.1
  unfold wp_X6_trace wp_X7_trace
  rw [h2]
  rcases ix a0 S.2.2.2.1.1 (by omega) with ⟨u, hu, rfl⟩ | hb
  · refine w6y (nI_nlt (by omega) (by omega)) (nI_top hu (by omega)) ?_
    simp only [z1, not_false_eq_true, t01, false_implies, true_and, and_true]
    simp (disch := omega) only [nI_clamp, zb_in, true_and, h3]
    rw [g2]
    refine w7y (nI_nlt (by omega) (by omega)) (nI_top hu (by omega)) ?_
    simp only [z1, not_false_eq_true, t01, false_implies, true_and, and_true]
    simp (disch := omega) only [nI_clamp, zb_in, true_and, g3]
    exact hOK
  · refine w6n hb ?_
    simp only [z0, not_true_eq_false, t01, false_implies, true_and, and_true]
    rw [g2]
    refine w7n hb ?_
    simp only [z0, not_true_eq_false, t01, false_implies, true_and, and_true]
    exact hOK
theorem L_kind {a0 : Int32} {M : gh_M} {S : SS} (hC : CS M S) (hR : RS M S) : wp_X6_kind a0 M (fun r1 M1 => wp_X7_kind a0 M1 (fun r2 M2 => r1 = r2 ∧ OKn M2)) := by
  have hOK : OKn M := ⟨S, hC, hR⟩
  have hT := hC.2.2.2.2.2.2.1
  have hT2 := hR.2.2.2.2.2.1
  obtain ⟨e0, e1, e2, b0, b1, b2⟩ := hT.hd
  obtain ⟨f0, f1, f2⟩ := hT2.hd hT.ok
  generalize S.2.2.2.2.1 = o at *
  unfold wp_X6_kind wp_X7_kind
  rcases ix a0 (ont o) (by omega) with ⟨u, hu, rfl⟩ | hb
  · refine c_isTy e1 hu (by omega) ?_
    simp only [z1, not_false_eq_true, t01, false_implies, true_and, and_true]
    cases o with
    | none => exact absurd hu (Nat.not_lt_zero _)
    | some X =>
      have hd := cCd hT.2
      have hu' : u < X.2.1.2.1 := hu
      have hr : rr M 0 X.1 := hT2
      have b1' : X.2.1.2.1 ≤ 5 := b1
      simp (disch := omega) only [nI_clamp, zb_in, true_and, hd.k0]
      refine r_isTy f1 hu (by omega) ?_
      simp only [z1, not_false_eq_true, t01, false_implies, true_and, and_true]
      simp (disch := omega) only [wp_X7_kindAt, wp_X7_trickAt, nI_add, pk_mul, nI_clamp, zb_in, true_and]
      exact ⟨(hr.at0 (by omega) (by omega)).symm, hOK⟩
  · refine c_isTn e1 hb ?_
    simp only [z0, not_true_eq_false, t01, false_implies, true_and, and_true]
    refine r_isTn f1 hb ?_
    simp only [z0, not_true_eq_false, t01, false_implies, true_and, and_true]
    exact hOK
theorem L_car {a0 a1 : Int32} {M : gh_M} {S : SS} (hC : CS M S) (hR : RS M S) : wp_X6_car a0 a1 M (fun r1 M1 => wp_X7_car a0 a1 M1 (fun r2 M2 => r1 = r2 ∧ OKn M2)) := by
  have hOK : OKn M := ⟨S, hC, hR⟩
  have hT := hC.2.2.2.2.2.2.1
  have hT2 := hR.2.2.2.2.2.1
  obtain ⟨e0, e1, e2, b0, b1, b2⟩ := hT.hd
  obtain ⟨f0, f1, f2⟩ := hT2.hd hT.ok
  generalize S.2.2.2.2.1 = o at *
  unfold wp_X6_car wp_X7_car
  rcases ix a0 (ona o) (by omega) with ⟨u, hu, rfl⟩ | hb
  · refine c_isCy e2 hu (by omega) ?_
    simp only [z1, not_false_eq_true, t01, false_implies, true_and, and_true]
    cases o with
    | none => exact absurd hu (Nat.not_lt_zero _)
    | some X =>
      have hd := cCd hT.2
      have hw := cWf hT.2
      have hu' : u < X.2.1.2.2 := hu
      have hr : rr M 0 X.1 := hT2
      have b2' : X.2.1.2.2 ≤ 6 := b2
      have key : ∀ r1 w, w ≤ 6 → r1 = X.1 (29 + 7 * u + w) → wp_X7_isCar (nI u) M (fun r1_1 M2 => ((r1_1 = 0 → r1 = (-1000001 : Int32) ∧ OKn M2) ∧ (¬ r1_1 = 0 → wp_X7_in (nI w) (nI 0) (nI 6) M2 (fun r4 M5 => ((r4 = 0 → r1 = (-1000001 : Int32) ∧ OKn M5) ∧ (¬ r4 = 0 → wp_X7_carAt (nI 0) (nI u) M5 (fun r7 M8 => (vp_in (r7 + nI w) 1988 ∧ (r1 = (M8 33 0 (r7 + nI w).toNatClampNeg) ∧ OKn M8))))))))) := by
        intro r1 w hw e
        refine r_isCy f2 hu (by omega) ?_
        simp only [z1, not_false_eq_true, t01, false_implies, true_and, and_true]
        refine w7y (nI_nlt (by omega) (by omega)) (nI_nlt hw (by omega)) ?_
        simp only [z1, not_false_eq_true, t01, false_implies, true_and, and_true]
        unfold wp_X7_carAt
        simp (disch := omega) only [nI_add, pk_mul, nI_clamp, zb_in, true_and]
        exact ⟨by rw [e, hr.at0 (i := 29 + 7 * u + w) (by omega) (by omega)], hOK⟩
      rcases few a1 6 (by omega) with ⟨w, hw3, rfl⟩ | ⟨hb, hne⟩
      · simp (disch := omega) only [nI_clamp, zb_in, true_and, hd.c0, hd.c1, hd.c2, hd.c3, hd.c4, hd.c5, hd.c6, nI_eq]
        refine ⟨fun h => key _ w hw3 (by subst h; rfl), fun h => ⟨fun h2 => key _ w hw3 (by subst h2; rfl), fun h2 => ⟨fun h3 => key _ w hw3 (by subst h3; rfl), fun h3 => ⟨fun h4 => key _ w hw3 (by subst h4; rfl), fun h4 => ⟨fun h5 => key _ w hw3 (by subst h5; rfl), fun h5 => ⟨fun h6 => key _ w hw3 (by subst h6; rfl), fun h6 => ⟨fun h7 => ?_, fun h7 => by omega⟩⟩⟩⟩⟩⟩⟩
        subst h7
        exact oneIf_id (hw.2.2.2.2.2 u hu') (key _ 6 hw3 rfl)
      · refine ⟨fun h => absurd h (hne 0 (by omega)), fun _ => ⟨fun h => absurd h (hne 1 (by omega)), fun _ => ⟨fun h => absurd h (hne 2 (by omega)), fun _ => ⟨fun h => absurd h (hne 3 (by omega)), fun _ => ⟨fun h => absurd h (hne 4 (by omega)), fun _ => ⟨fun h => absurd h (hne 5 (by omega)), fun _ => ⟨fun h => absurd h (hne 6 (by omega)), fun _ => ?_⟩⟩⟩⟩⟩⟩⟩
        refine r_isCy f2 hu (by omega) ?_
        simp only [z1, not_false_eq_true, t01, false_implies, true_and, and_true]
        refine w7n hb ?_
        simp only [z0, not_true_eq_false, t01, false_implies, true_and, and_true]
        exact hOK
  · refine c_isCn e2 hb ?_
    simp only [z0, not_true_eq_false, t01, false_implies, true_and, and_true]
    refine r_isCn f2 hb ?_
    simp only [z0, not_true_eq_false, t01, false_implies, true_and, and_true]
    exact hOK
theorem L_cell {a0 a1 : Int32} {M : gh_M} {S : SS} (hC : CS M S) (hR : RS M S) : wp_X6_cell a0 a1 M (fun r1 M1 => wp_X7_cell a0 a1 M1 (fun r2 M2 => r1 = r2 ∧ OKn M2)) := by
  have hOK : OKn M := ⟨S, hC, hR⟩
  have hT := hC.2.2.2.2.2.2.1
  have hT2 := hR.2.2.2.2.2.1
  obtain ⟨e0, e1, e2, b0, b1, b2⟩ := hT.hd
  obtain ⟨f0, f1, f2⟩ := hT2.hd hT.ok
  generalize S.2.2.2.2.1 = o at *
  unfold wp_X6_cell wp_X7_cell
  rcases ix a0 (onc o) (by omega) with ⟨u, hu, rfl⟩ | hb
  · refine c_isLy e0 hu (by omega) ?_
    simp only [z1, not_false_eq_true, t01, false_implies, true_and, and_true]
    cases o with
    | none => exact absurd hu (Nat.not_lt_zero _)
    | some X =>
      have hd := cCd hT.2
      have hw := cWf hT.2
      have hu' : u < X.2.1.1 := hu
      have hr : rr M 0 X.1 := hT2
      have b0' : X.2.1.1 ≤ 12 := b0
      have b2' : X.2.1.2.2 ≤ 6 := b2
      obtain ⟨k0, k1, k2, -⟩ := hT.1.1
      obtain ⟨⟨I, hX, hI, -⟩, -⟩ := hT.2
      rcases few a1 1 (by omega) with ⟨w, hw3, rfl⟩ | ⟨hb, hne⟩
      · simp (disch := omega) only [nI_clamp, zb_in, true_and, nI_eq, hX.2.2.1]
        have fin : ∀ r1 : Int32, r1 = sp_inv (sp_in X.1 X.2.1.2.2 (nI u)) → w = 0 → wp_X7_isCell (nI u) M (fun r1_1 M2 => ((r1_1 = 0 → r1 = (-1000001 : Int32) ∧ OKn M2) ∧ (¬ r1_1 = 0 → wp_X7_in (nI w) (nI 0) (nI 1) M2 (fun r4 M5 => ((¬ r4 = 0 → ((¬ (nI w) = 0 → wp_X7_tricksIn (nI u) M5 (fun r8 M9 => r1 = r8 ∧ OKn M9)) ∧ ((nI w) = 0 → wp_X7_carIn (nI 0) (nI u) M5 (fun r10 M11 => r1 = r10 ∧ OKn M11)))) ∧ (r4 = 0 → r1 = (-1000001 : Int32) ∧ OKn M5)))))) := by
          intro r1 e1 ew
          subst ew
          refine r_isLy f0 hu (by omega) ?_
          simp only [z1, not_false_eq_true, t01, false_implies, true_and, and_true]
          refine w7y (by decide) (by decide) ?_
          simp only [z1, not_false_eq_true, t01, false_implies, true_and, and_true]
          simp only [z0, not_true_eq_false, t01, false_implies, true_and]
          exact r_carIn (by omega) hr k2 b2 ⟨e1, hOK⟩
        refine ⟨fun h => ⟨fun g => fin _ ?_ h, fun g => fin _ ?_ h⟩, fun h => ⟨fun h2 => ?_, fun h2 => by omega⟩⟩
        · cases h9 : sp_in X.1 X.2.1.2.2 (nI u) with
          | none => exact absurd (hI.none b2 hu' (sp_in_none h9)) g
          | some c => exact hI.some hw b2 b0 hu' (sp_in_some h9).1 (sp_in_some h9).2
        · cases h9 : sp_in X.1 X.2.1.2.2 (nI u) with
          | none => rfl
          | some c =>
            rw [hI.some hw b2 b0 hu' (sp_in_some h9).1 (sp_in_some h9).2] at g
            exact absurd g (nI_m1 (by have := (sp_in_some h9).1; omega))
        · subst h2
          refine c_in hd k1 b1 ?_
          refine r_isLy f0 hu (by omega) ?_
          simp only [z1, not_false_eq_true, t01, false_implies, true_and, and_true]
          refine w7y (by decide) (by decide) ?_
          simp only [z1, not_false_eq_true, t01, false_implies, true_and, and_true]
          exact r_in hr k1 b1 ⟨rfl, hOK⟩
      · refine ⟨fun h => absurd h (hne 0 (by omega)), fun _ => ⟨fun h => absurd h (hne 1 (by omega)), fun _ => ?_⟩⟩
        refine r_isLy f0 hu (by omega) ?_
        simp only [z1, not_false_eq_true, t01, false_implies, true_and, and_true]
        refine w7n hb ?_
        simp only [z0, not_true_eq_false, t01, false_implies, true_and, and_true]
        exact hOK
  · refine c_isLn e0 hb ?_
    simp only [z0, not_true_eq_false, t01, false_implies, true_and, and_true]
    refine r_isLn f0 hb ?_
    simp only [z0, not_true_eq_false, t01, false_implies, true_and, and_true]
    exact hOK
theorem L_stand {a0 : Int32} {M : gh_M} {S : SS} (hC : CS M S) (hR : RS M S) : wp_X6_stand a0 M (fun r1 M1 => wp_X7_stand a0 M1 (fun r2 M2 => r1 = r2 ∧ OKn M2)) := by
  have hOK : OKn M := ⟨S, hC, hR⟩
  have hT := hC.2.2.2.2.2.2.1
  have hT2 := hR.2.2.2.2.2.1
  obtain ⟨e0, e1, e2, b0, b1, b2⟩ := hT.hd
  obtain ⟨f0, f1, f2⟩ := hT2.hd hT.ok
  generalize S.2.2.2.2.1 = o at *
  unfold wp_X6_stand wp_X7_stand
  cases o with
  | none =>
    refine c_hasn e2 ?_
    simp only [z0, not_true_eq_false, t01, false_implies, true_and, and_true]
    refine r_hasn f0 ?_
    simp only [z0, not_true_eq_false, t01, false_implies, true_and, and_true]
    exact hOK
  | some X =>
    have hd := cCd hT.2
    have hw := cWf hT.2
    have hr : rr M 0 X.1 := hT2
    have b0' : X.2.1.1 ≤ 12 := b0
    have b2' : X.2.1.2.2 ≤ 6 := b2
    obtain ⟨⟨k0, k1, k2, -⟩, p0, p1, p2, -⟩ := hT.1
    refine c_hasy (n := X.2.1.2.2) e2 (by omega) (by omega) ?_
    simp only [z1, not_false_eq_true, t01, false_implies, true_and, and_true]
    have fin : ∀ (r1 : Int32) (w : Nat), w ≤ 4 → (wp_X7_in (nI w) (nI 0) (nI 4) M (fun r4 M5 => ((¬ r4 = 0 → ((¬ (nI w) = 0 → ((¬ (nI w) = (nI 4) → wp_X7_carsThat (nI 0) (nI w) M5 (fun r9 M10 => r1 = r9 ∧ OKn M10)) ∧ ((nI w) = (nI 4) → wp_X7_onSet (nI 0) M5 (fun r11 M12 => r1 = r11 ∧ OKn M12)))) ∧ ((nI w) = 0 → (vp_in (nI 0) 1988 ∧ (r1 = (M5 33 0 (nI 0).toNatClampNeg) ∧ OKn M5))))) ∧ (r4 = 0 → r1 = (-1000001 : Int32) ∧ OKn M5)))) → wp_X7_isTrain M (fun r1_1 M2 => ((¬ r1_1 = 0 → wp_X7_in (nI w) (nI 0) (nI 4) M2 (fun r4 M5 => ((¬ r4 = 0 → ((¬ (nI w) = 0 → ((¬ (nI w) = (nI 4) → wp_X7_carsThat (nI 0) (nI w) M5 (fun r9 M10 => r1 = r9 ∧ OKn M10)) ∧ ((nI w) = (nI 4) → wp_X7_onSet (nI 0) M5 (fun r11 M12 => r1 = r11 ∧ OKn M12)))) ∧ ((nI w) = 0 → (vp_in (nI 0) 1988 ∧ (r1 = (M5 33 0 (nI 0).toNatClampNeg) ∧ OKn M5))))) ∧ (r4 = 0 → r1 = (-1000001 : Int32) ∧ OKn M5)))) ∧ (r1_1 = 0 → r1 = (-1000002 : Int32) ∧ OKn M2))) := by
      intro r1 w hw h
      refine r_hasy (n := X.2.1.1) f0 (by omega) (by omega) ?_
      simp only [z1, not_false_eq_true, t01, false_implies, true_and, and_true]
      exact h
    rcases few a0 4 (by omega) with ⟨w, hw3, rfl⟩ | ⟨hb, hne⟩
    · have hwc : w = 0 ∨ w = 1 ∨ w = 2 ∨ w = 3 ∨ w = 4 := by omega
      have n0 : ∀ j, j ≤ 4 → 0 < j → ¬ nI j = 0 := fun j h1 h2 => nI_ne0 h2 (by omega)
      have hy : ∀ {Q : Int32 → gh_M → Prop}, Q (nI 1) M → wp_X7_in (nI w) (nI 0) (nI 4) M Q := fun h => w7y (nI_nlt (by omega) (by omega)) (nI_nlt hw3 (by omega)) h
      have that : ∀ (r1 : Int32) (w : Nat), 1 ≤ w → w ≤ 3 → r1 = sbit (sp_th X.1 w) X.2.1.2.2 → ((¬ nI 1 = 0 → ((¬ (nI w) = 0 → ((¬ (nI w) = (nI 4) → wp_X7_carsThat (nI 0) (nI w) M (fun r9 M10 => r1 = r9 ∧ OKn M10)) ∧ ((nI w) = (nI 4) → wp_X7_onSet (nI 0) M (fun r11 M12 => r1 = r11 ∧ OKn M12)))) ∧ ((nI w) = 0 → (vp_in (nI 0) 1988 ∧ (r1 = (M 33 0 (nI 0).toNatClampNeg) ∧ OKn M))))) ∧ (nI 1 = 0 → r1 = (-1000001 : Int32) ∧ OKn M)) := by
        intro r1 w h1 h2 e
        simp only [z1, not_false_eq_true, t01, false_implies, true_and, and_true]
        exact ⟨fun _ => ⟨fun _ => r_that (by omega) hr k2 b2 ⟨h1, h2⟩ ⟨e, hOK⟩, fun h => absurd (zb_nI_inj h (by omega) (by omega)) (by omega)⟩, fun h => absurd h (n0 w (by omega) h1)⟩
      rcases hwc with rfl | rfl | rfl | rfl | rfl
      · refine ⟨fun _ => fin _ 0 hw3 (hy ?_), fun h => absurd rfl h⟩
        simp only [z1, not_false_eq_true, t01, false_implies, true_and, and_true]
        refine ⟨fun h => absurd rfl h, fun _ => ⟨vp_in_nI (by omega) (by omega), e0.trans ?_, hOK⟩⟩
        rw [nI_clamp (by omega), f0]
      · refine ⟨fun h => absurd h (by decide), fun _ => ⟨fun _ => ?_, fun h => absurd rfl h⟩⟩
        exact c_wait hd k2 b2 (fin _ 1 hw3 (hy (that _ 1 (by omega) (by omega) rfl)))
      · refine ⟨fun h => absurd h (by decide), fun _ => ⟨fun h => absurd h (by decide), fun _ => ⟨fun _ => ?_, fun h => absurd rfl h⟩⟩⟩
        exact c_runs hd k2 b2 hw b0 (fin _ 2 hw3 (hy (that _ 2 (by omega) (by omega) rfl)))
      · refine ⟨fun h => absurd h (by decide), fun _ => ⟨fun h => absurd h (by decide), fun _ => ⟨fun h => absurd h (by decide), fun _ => ⟨fun _ => ?_, fun h => absurd rfl h⟩⟩⟩⟩
        exact c_out hd k2 b2 (fin _ 3 hw3 (hy (that _ 3 (by omega) (by omega) rfl)))
      · refine ⟨fun h => absurd h (by decide), fun _ => ⟨fun h => absurd h (by decide), fun _ => ⟨fun h => absurd h (by decide), fun _ => ⟨fun h => absurd h (by decide), fun _ => ⟨fun _ => ?_, fun h => absurd rfl h⟩⟩⟩⟩⟩
        refine c_on hd k1 b1 hw (fin _ 4 hw3 (hy ?_))
        exact ⟨fun _ => ⟨fun _ => ⟨fun h => absurd rfl h, fun _ => r_onSet (by omega) hr k1 b1 ⟨rfl, hOK⟩⟩, fun h => absurd h (by decide)⟩, fun h => absurd h (by decide)⟩
    · refine ⟨fun h => absurd h (hne 0 (by omega)), fun _ => ⟨fun h => absurd h (hne 1 (by omega)), fun _ => ⟨fun h => absurd h (hne 2 (by omega)), fun _ => ⟨fun h => absurd h (hne 3 (by omega)), fun _ => ⟨fun h => absurd h (hne 4 (by omega)), fun _ => ?_⟩⟩⟩⟩⟩
      refine r_hasy (n := X.2.1.1) f0 (by omega) (by omega) ?_
      simp only [z1, not_false_eq_true, t01, false_implies, true_and, and_true]
      refine w7n hb ?_
      simp only [z0, not_true_eq_false, t01, false_implies, true_and, and_true]
      exact hOK
