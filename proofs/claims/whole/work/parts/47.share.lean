-- SHARE; the trial again, with all else kept
def shF (T : TT) (u : Nat) (v al : Int32) : Nat → Nat → Int32 → Int32 → Int32
  | 0, _, x4, x5 => if T (4 + 5 * u + 4) ≤ 0 then v * T (4 + 5 * u + 4) / al + nI 0 else if x4 ≤ x5 then v * T (4 + 5 * u + 4) / al + nI 0 else v * T (4 + 5 * u + 4) / al + nI 1
  | r + 1, k, x4, x5 => shF T u v al r (k + 1) (x4 - v * T (4 + 5 * k + 4) / al) (if u ≤ k then x5 + nI 0 else if T (4 + 5 * k + 4) ≤ 0 then x5 + nI 0 else x5 + nI 1)
theorem c_share_l {M : gh_M} {nt na u : Nat} {v al : Int32} {T : TT} (hd : cd M 0 T nt na) (h1 : T 1 = nI nt) (hn : nt ≤ 5) (hu : u < nt) (hal : ¬ al = 0) {Q : Int32 → gh_M → Prop} :
    ∀ (r k : Nat) (x4 x5 : Int32), k + r = nt → Q (shF T u v al r k x4 x5) M → wl_X5_takings_20 0 Q (r + 1) (nI u) v al x4 x5 (nI k) M := by
  intro r
  induction r with
  | zero =>
    intro k x4 x5 hk hQ
    unfold wl_X5_takings_20
    rw [hd.2.1, h1, nI_clamp (by omega), hd.k4 hu]
    have : k = nt := by omega
    subst this
    unfold shF at hQ
    refine ⟨fun _ => ⟨vp_in_nI (by omega) (by omega), hal, vp_in_nI (by omega) (by omega), fun q => oneIf_id (Or.inl rfl) ?_, fun q => ⟨fun q2 => oneIf_id (Or.inl rfl) ?_, fun q2 => oneIf_id (Or.inr rfl) ?_⟩⟩, fun h => absurd (Int32.le_refl _) h⟩
    · rw [if_pos q] at hQ; exact hQ
    · rw [if_neg q, if_pos q2] at hQ; exact hQ
    · rw [if_neg q, if_neg q2] at hQ; exact hQ
  | succ r ih =>
    intro k x4 x5 hk hQ
    unfold wl_X5_takings_20
    rw [hd.2.1, h1, nI_clamp (n := k) (by omega), hd.k4 (i := k) (by omega)]
    unfold shF at hQ
    refine ⟨fun h => absurd h (nI_ge (by omega) (by omega)), fun _ => ⟨vp_in_nI (by omega) (by omega), hal, ?_⟩⟩
    rintro y rfl
    rw [nI_leI (a := u) (b := k) (by omega) (by omega)]
    refine ⟨fun q => oneIf_id (Or.inl rfl) ?_, fun q => ⟨vp_in_nI (by omega) (by omega), fun q2 => oneIf_id (Or.inl rfl) ?_, fun q2 => oneIf_id (Or.inr rfl) ?_⟩⟩
    · rintro y rfl z rfl
      rw [if_pos q] at hQ
      rw [nI_add]
      exact ih (k + 1) _ _ (by omega) hQ
    · rintro y rfl z rfl
      rw [if_neg q, if_pos q2] at hQ
      rw [nI_add]
      exact ih (k + 1) _ _ (by omega) hQ
    · rintro y rfl z rfl
      rw [if_neg q, if_neg q2] at hQ
      rw [nI_add]
      exact ih (k + 1) _ _ (by omega) hQ
theorem r_met {M : gh_M} {T : TT} {u : Nat} (hr : rr M 0 T) (hu : u < 5) {Q : Int32 → gh_M → Prop} (hQ : Q (T (4 + 5 * u + 4)) M) : wp_X7_metOf (nI u) M Q := by
  unfold wp_X7_metOf wp_X7_trickAt
  simp (disch := omega) only [nI_add, pk_mul, nI_clamp, zb_in, true_and]
  rw [hr.at0 (i := 4 + 5 * u + 4) (by omega) (by omega)]
  exact hQ
theorem r_share_l {M : gh_M} {nt u : Nat} {v al : Int32} {T : TT} (hr : rr M 0 T) (h1 : T 1 = nI nt) (hn : nt ≤ 5) (hu : u < nt) (hal : ¬ al = 0) {Q : Int32 → gh_M → Prop} :
    ∀ (r k : Nat) (x4 x5 : Int32), k + r = nt → Q (shF T u v al r k x4 x5) M → wl_X7_share_43 Q (r + 1) (nI u) v al x4 x5 (nI k) M := by
  have e1 : M 33 0 1 = nI nt := (hr.at0 (i := 1) (by omega) rfl).trans h1
  intro r
  induction r with
  | zero =>
    intro k x4 x5 hk hQ
    unfold wl_X7_share_43
    rw [nI_clamp (n := 1) (by omega), e1]
    have : k = nt := by omega
    subst this
    unfold shF at hQ
    refine ⟨vp_in_nI (by omega) (by omega), fun _ => r_met hr (by omega) ⟨hal, r_met hr (by omega) ⟨fun q => ?_, fun q => ⟨fun q2 => ?_, fun q2 => ?_⟩⟩⟩, fun h => absurd (Int32.le_refl _) h⟩
    · rw [if_pos q] at hQ; exact hQ
    · rw [if_neg q, if_pos q2] at hQ; exact hQ
    · rw [if_neg q, if_neg q2] at hQ; exact hQ
  | succ r ih =>
    intro k x4 x5 hk hQ
    unfold wl_X7_share_43
    rw [nI_clamp (n := 1) (by omega), e1]
    unfold shF at hQ
    refine ⟨vp_in_nI (by omega) (by omega), fun h => absurd h (nI_ge (by omega) (by omega)), fun _ => r_met hr (by omega) ⟨hal, ?_⟩⟩
    rintro y rfl
    rw [nI_leI (a := u) (b := k) (by omega) (by omega)]
    refine ⟨fun q => ?_, fun q => r_met hr (by omega) ⟨fun q2 => ?_, fun q2 => ?_⟩⟩
    · rintro y rfl z rfl
      rw [if_pos q] at hQ
      rw [nI_add]
      exact ih (k + 1) _ _ (by omega) hQ
    · rintro y rfl z rfl
      rw [if_neg q, if_pos q2] at hQ
      rw [nI_add]
      exact ih (k + 1) _ _ (by omega) hQ
    · rintro y rfl z rfl
      rw [if_neg q, if_neg q2] at hQ
      rw [nI_add]
      exact ih (k + 1) _ _ (by omega) hQ
theorem L_share {a0 a1 : Int32} {M : gh_M} {S : SS} (hC : CS M S) (hR : RS M S) : wp_X6_share a0 a1 M (fun r1 M1 => wp_X7_share a0 a1 M1 (fun r2 M2 => r1 = r2 ∧ OKn M2)) := by
  have hOK : OKn M := ⟨S, hC, hR⟩
  have hT := hC.2.2.2.2.2.2.1
  have hT2 := hR.2.2.2.2.2.1
  obtain ⟨e0, e1, e2, b0, b1, b2⟩ := hT.hd
  obtain ⟨f0, f1, f2⟩ := hT2.hd hT.ok
  unfold wp_X6_share wp_X7_share
  rcases ix a0 (ont S.2.2.2.2.1) (by omega) with ⟨u, hu, rfl⟩ | hb
  · refine c_isTy e1 hu (by omega) ?_
    simp only [z1, not_false_eq_true, t01, false_implies, true_and, and_true]
    by_cases hv : ¬ a1 < nI 0 ∧ ¬ nI 999 < a1
    · refine w6y hv.1 hv.2 ?_
      simp only [z1, not_false_eq_true, t01, false_implies, true_and, and_true]
      cases hX : S.2.2.2.2.1 with
      | none => rw [hX] at hu; exact absurd hu (Nat.not_lt_zero _)
      | some X =>
        rw [hX] at e0 e1 e2 f0 f1 f2 b0 b1 b2 hu
        have hu' : u < X.2.1.2.1 := hu
        have b1' : X.2.1.2.1 ≤ 5 := b1
        obtain ⟨hk, hz, h19⟩ := hC.trn hX
        have hr := hR.trn hX
        unfold wp_X5_takings
        refine c_met hz.cd hk.hd.2.1 b1 ?_
        have ref : ∀ r1, (bx_sum (fun t => X.1 (4 + 5 * t + 4)) X.2.1.2.1 = 0 → r1 = nI 0) → (¬ bx_sum (fun t => X.1 (4 + 5 * t + 4)) X.2.1.2.1 = 0 → r1 = shF X.1 u a1 (bx_sum (fun t => X.1 (4 + 5 * t + 4)) X.2.1.2.1) X.2.1.2.1 0 a1 (nI 0)) → wp_X7_isTrick (nI u) M (fun r1_1 M2 => ((r1_1 = 0 → r1 = (-1000001 : Int32) ∧ OKn M2) ∧ (¬ r1_1 = 0 → wp_X7_in a1 (nI 0) (nI 999) M2 (fun r4 M5 => ((¬ r4 = 0 → wp_X7_allMet (nI 0) M5 (fun r7 M8 => ((¬ r7 = 0 → ∃ k, wl_X7_share_43 (fun r2 M2 => r1 = r2 ∧ OKn M2) k (nI u) a1 r7 a1 (nI 0) (nI 0) M8) ∧ (r7 = 0 → r1 = nI 0 ∧ OKn M8)))) ∧ (r4 = 0 → r1 = (-1000001 : Int32) ∧ OKn M5)))))) := by
          intro r1 h0 h1
          refine r_isTy f1 hu (by omega) ?_
          simp only [z1, not_false_eq_true, t01, false_implies, true_and, and_true]
          refine w7y hv.1 hv.2 ?_
          simp only [z1, not_false_eq_true, t01, false_implies, true_and, and_true]
          refine r_allMet (x := 0) (by omega) hr hk.hd.2.1 b1 ⟨fun q => ?_, fun q => ⟨h0 q, hOK⟩⟩
          exact ⟨X.2.1.2.1 + 1, r_share_l hr hk.hd.2.1 b1 hu' q X.2.1.2.1 0 a1 (nI 0) (by omega) ⟨h1 q, hOK⟩⟩
        refine ⟨fun q => ⟨X.2.1.2.1 + 1, c_share_l hz.cd hk.hd.2.1 b1 hu' q X.2.1.2.1 0 a1 (nI 0) (by omega) (ref _ (fun z => absurd z q) (fun _ => rfl))⟩, fun q => ref _ (fun _ => rfl) (fun z => absurd q z)⟩
    · have hb : a1 < nI 0 ∨ nI 999 < a1 := by
        by_cases q : a1 < nI 0
        · exact Or.inl q
        · by_cases q2 : nI 999 < a1
          · exact Or.inr q2
          · exact absurd ⟨q, q2⟩ hv
      refine w6n hb ?_
      simp only [z0, not_true_eq_false, t01, false_implies, true_and, and_true]
      refine r_isTy f1 hu (by omega) ?_
      simp only [z1, not_false_eq_true, t01, false_implies, true_and, and_true]
      refine w7n hb ?_
      simp only [z0, not_true_eq_false, t01, false_implies, true_and, and_true]
      exact hOK
  · refine c_isTn e1 hb ?_
    simp only [z0, not_true_eq_false, t01, false_implies, true_and, and_true]
    refine r_isTn f1 hb ?_
    simp only [z0, not_true_eq_false, t01, false_implies, true_and, and_true]
    exact hOK
section Y
variable {M : gh_M} {S : SS} {X : TR} {T : TT} {h : HD} {Q : gh_M → Prop}
theorem y_copy (hC : CS M S) (hX : S.2.2.2.2.1 = some X) (hQ : ∀ M', ft 28 M M' → ctr M' 28 X → Q M') : wp_X5_copyFrom 28 0 M Q :=
  c_copy (by omega) (hC.1 0 (by omega)) (fun M2 h2 => hQ M2 h2.ft (ctr.cp h2 (hC.trn hX).1 (hC.trn hX).2))
theorem y_for {N : Nat} (hN : N ≤ 60) (h4 : 0 < h.1.1) (hh : hdk T h) (hz : ctr M 28 (T, h)) (hQ : ∀ M' T', ft 28 M M' → ctr M' 28 (T', h) → eq3 T' (run h N T) → Q M') : wp_X5_tickOnFor 28 (nI N) M Q :=
  c_for (M0 := M) (K := M 19 28) (pc := h.2) (rk := idk) hN (fun k hk => ⟨hz.2 k hk, hk⟩) h4 hh hz.1 (fun M' T' hz' e' => hQ M' T' hz'.ft ⟨hz'.re, fun k hk => (hz'.K19 k).trans (hz.2 k hk)⟩ e')
theorem y_tick (h4 : 0 < h.1.1) (hh : hdk T h) (hz : ctr M 28 (T, h)) (hQ : ∀ M', ft 28 M M' → ctr M' 28 (tk h T, h) → Q M') : wp_X5_tickOn 28 M Q :=
  c_tick (M0 := M) (K := M 19 28) (pc := h.2) (rk := idk) (fun k hk => ⟨hz.2 k hk, hk⟩) h4 hh hz.1 (fun M' hz' => hQ M' hz'.ft ⟨hz'.re, fun k hk => (hz'.K19 k).trans (hz.2 k hk)⟩)
theorem y_sw {v : Int32} (hh : hdk T h) (hz : ctr M 28 (T, h)) (hQ : ∀ M', ft 28 M M' → ctr M' 28 (sp_sw T v h.1.2.1, h) → Q M') : wp_X5_switchTo 28 v M Q :=
  c_sw (M0 := M) (K := M 19 28) hh.2.1 hh.2.2.2.2.1 hz.1 (fun M' hz' => hQ M' hz'.ft ⟨hz'.re, fun k hk => (hz'.K19 k).trans (hz.2 k hk)⟩)
theorem y_re {M' : gh_M} {T' : TT} (hz : ctr M 28 (T, h)) (hz' : cz M 28 h.1.1 h.1.2.1 h.1.2.2 (M 19 28) M' T') : ctr M' 28 (T', h) ∧ ft 28 M M' := ⟨⟨hz'.re, fun k hk => (hz'.K19 k).trans (hz.2 k hk)⟩, hz'.ft⟩
end Y
-- WHAT IS TOLD
def tlF (h : HD) (u : Nat) (p : Nat → Int32) : Nat → Nat → TT → Bool
  | 0, _, _ => true
  | r + 1, i, T => if tk h T (29 + 7 * u + 4) = p i then tlF h u p r (i + 1) (tk h T) else false
theorem c_told_l {M0 : gh_M} {h : HD} {u n : Nat} {p : Nat → Int32} (hu : u < h.1.2.2) (h6 : h.1.2.2 ≤ 6) (hn : n ≤ 12) (h4 : 0 < h.1.1) (e2 : M0 24 0 2 = nI n) (ep : ∀ i, i < n → M0 25 0 i = p i) {Q : Int32 → gh_M → Prop} :
    ∀ (r i : Nat) (M : gh_M) (T : TT), i + r = n → ft 28 M0 M → ctr M 28 (T, h) → hdk T h → (∀ M' T', ft 28 M0 M' → ctr M' 28 (T', h) → Q (if tlF h u p r i T = true then nI 1 else nI 0) M') → wl_X2_isAsTold_2 Q (r + 1) (nI u) (nI i) M := by
  intro r
  induction r with
  | zero =>
    intro i M T hi hf hz hh hQ
    unfold wl_X2_isAsTold_2
    rw [hf 24 0 (by omega), e2]
    have : i = n := by omega
    subst this
    exact ⟨fun _ => hQ M T hf hz, fun h => absurd (Int32.le_refl _) h⟩
  | succ r ih =>
    intro i M T hi hf hz hh hQ
    unfold wl_X2_isAsTold_2
    rw [hf 24 0 (by omega), e2]
    refine ⟨fun h => absurd h (nI_ge (by omega) (by omega)), fun _ => ?_⟩
    refine y_tick h4 hh hz (fun M2 f2 z2 => ⟨vp_in_nI (by omega) (by omega), vp_in_nI (by omega) (by omega), ?_⟩)
    have hf2 := hf.tr f2
    rw [nI_clamp (n := u) (by omega), nI_clamp (n := i) (by omega), z2.1.cd.c4 hu, hf2 25 0 (by omega), ep i (by omega)]
    unfold tlF at hQ
    refine ⟨fun q => ?_, fun q => ?_⟩
    · rintro y rfl
      rw [nI_add]
      refine ih (i + 1) M2 _ (by omega) hf2 z2 hh.tk (fun M' T' h1 h2 => ?_)
      have := hQ M' T' h1 h2
      rw [if_pos q] at this
      exact this
    · have := hQ M2 _ hf2 z2
      rw [if_neg q] at this
      exact this
theorem r_told_l {M0 : gh_M} {X : TR} {u n rw0 i0 : Nat} {p : Nat → Int32} (hu : u < X.2.1.2.2) (h6 : X.2.1.2.2 ≤ 6) (hn : n ≤ 12) (hrw : rw0 < 8) (hi0 : i0 + n ≤ 40) (ep : ∀ i, i < n → M0 38 0 (40 * rw0 + i0 + i) = p i) {Q : Int32 → gh_M → Prop} :
    ∀ (r i : Nat) (M : gh_M) (T : TT) (b : Bool), i + r = n → fs M0 M → trd M X T → hdk T X.2 → (∀ M', fs M0 M' → Q (if b = true ∧ tlF X.2 u p r i T = true then nI 1 else nI 0) M') → wl_X7_isTold_6 Q (r + 1) (nI u) (nI rw0) (nI i0) (nI n) (if b = true then nI 1 else nI 0) (nI i) M := by
  intro r
  induction r with
  | zero =>
    intro i M T b hi hf t hh hQ
    unfold wl_X7_isTold_6
    have : i = n := by omega
    subst this
    have := hQ M hf
    unfold tlF at this
    refine ⟨fun _ => ?_, fun h => absurd (Int32.le_refl _) h⟩
    cases b
    · exact ⟨by decide, by simpa using this⟩
    · exact ⟨by decide, by simpa using this⟩
  | succ r ih =>
    intro i M T b hi hf t hh hQ
    unfold wl_X7_isTold_6
    refine ⟨fun h => absurd h (nI_ge (by omega) (by omega)), fun _ => ?_⟩
    cases b
    · refine ⟨fun _ => ⟨by decide, ?_⟩, fun h => absurd rfl h⟩
      have := hQ M hf
      simpa using this
    · refine ⟨fun h => absurd h (by decide), fun _ => ?_⟩
      refine r_tk1 hh t (fun M2 f2 t2 => ?_)
      have hf2 := hf.tr f2
      unfold wp_X7_carAt
      simp (disch := omega) only [nI_add, pk_mul, nI_clamp, zb_in, true_and]
      rw [t2.1.at1 (i := 29 + 7 * u + 4) (by omega) (by omega), hf2 38 0 _ (by omega) (by omega) (by omega), ep i (by omega)]
      unfold tlF at hQ
      refine ⟨fun q => ?_, fun q => ?_⟩
      · rintro y rfl
        refine ih (i + 1) M2 _ false (by omega) hf2 t2 hh.tk (fun M' h1 => ?_)
        have := hQ M' h1
        rw [if_neg q] at this
        simpa using this
      · rintro y rfl
        refine ih (i + 1) M2 _ true (by omega) hf2 t2 hh.tk (fun M' h1 => ?_)
        have := hQ M' h1
        rw [if_pos q] at this
        exact this
