-- ARGUMENTS, AND CALLS THAT ONLY READ
def ont (o : Option TR) : Nat := match o with
  | none => 0
  | some X => X.2.1.2.1
def ona (o : Option TR) : Nat := match o with
  | none => 0
  | some X => X.2.1.2.2
def onc (o : Option TR) : Nat := match o with
  | none => 0
  | some X => X.2.1.1
theorem cTrn.hd {M : gh_M} {o : Option TR} (h : cTrn M o) : M 6 0 0 = nI (onc o) ∧ M 6 0 1 = nI (ont o) ∧ M 6 0 2 = nI (ona o) ∧ onc o ≤ 12 ∧ ont o ≤ 5 ∧ ona o ≤ 6 := by
  cases o with
  | none => exact ⟨h.1, h.2.1, h.2.2.1, Nat.zero_le _, Nat.zero_le _, Nat.zero_le _⟩
  | some X =>
    obtain ⟨⟨⟨k0, k1, k2, b0, b1, b2, k3⟩, -⟩, ⟨I, hX, -⟩, -⟩ := h
    exact ⟨hX.1.1.trans k0, hX.1.2.1.trans k1, hX.1.2.2.1.trans k2, b0, b1, b2⟩
theorem rTrn.hd {M : gh_M} {o : Option TR} (h : rTrn M o) (hk : ∀ X, o = some X → trOK X) : M 33 0 0 = nI (onc o) ∧ M 33 0 1 = nI (ont o) ∧ M 33 0 2 = nI (ona o) := by
  cases o with
  | none => exact ⟨h.1, h.2.1, h.2.2.1⟩
  | some X =>
    obtain ⟨⟨k0, k1, k2, b0, b1, b2, k3⟩, -⟩ := hk X rfl
    exact ⟨(h 0 (by omega)).trans k0, (h 1 (by omega)).trans k1, (h 2 (by omega)).trans k2⟩
theorem cTrn.ok {M : gh_M} {o : Option TR} (h : cTrn M o) : ∀ X, o = some X → trOK X := fun X e => by subst e; exact h.1
theorem rr.at0 {M : gh_M} {T : TT} (h : rr M 0 T) {q i : Nat} (hi : i < 71) (e : q = i) : M 33 0 q = T i := by
  subst e
  have := h q hi
  rw [Nat.zero_add] at this
  exact this
theorem rr.at1 {M : gh_M} {x : Nat} {T : TT} (h : rr M x T) {q i : Nat} (hi : i < 71) (e : q = x + i) : M 33 0 q = T i := by
  subst e
  exact h i hi
/-- a place below n, or none -/
theorem ix (a : Int32) (n : Nat) (hn : n < 2 ^ 31) : (∃ u, u < n ∧ a = nI u) ∨ a < nI 0 ∨ nI n - nI 1 < a := by
  rcases Int32.lt_or_le a (nI 0) with h | h
  · exact Or.inr (Or.inl h)
  · obtain ⟨u, hu, rfl⟩ := nI_of (Int32.not_lt.mpr h)
    by_cases g : u < n
    · exact Or.inl ⟨u, g, rfl⟩
    · refine Or.inr (Or.inr ?_)
      cases n with
      | zero =>
        have e : nI 0 - nI 1 = (-1 : Int32) := by decide
        rw [e]
        exact Int32.lt_of_lt_of_le (by decide : (-1 : Int32) < nI 0) h
      | succ n =>
        rw [show nI (n + 1) - nI 1 = nI n from nI_pred n]
        exact nI_lt (by omega) hu
theorem nI_top {u n : Nat} (hu : u < n) (hn : n < 2 ^ 31) : ¬ nI n - nI 1 < nI u := by
  cases n with
  | zero => omega
  | succ n => rw [show nI (n + 1) - nI 1 = nI n from nI_pred n]; exact nI_nlt (by omega) (by omega)
section W
variable {a lo hi : Int32} {M : gh_M} {Q : Int32 → gh_M → Prop}
theorem w6n (h : a < lo ∨ hi < a) (hq : Q (nI 0) M) : wp_X6_within a lo hi M Q := by
  refine ⟨fun _ => hq, fun g => ⟨fun _ => hq, fun g2 => ?_⟩⟩
  rcases h with h | h
  · exact absurd h g
  · exact absurd h g2
theorem w6y (h1 : ¬ a < lo) (h2 : ¬ hi < a) (hq : Q (nI 1) M) : wp_X6_within a lo hi M Q := ⟨fun h => absurd h h1, fun _ => ⟨fun h => absurd h h2, fun _ => hq⟩⟩
theorem w7n (h : a < lo ∨ hi < a) (hq : Q (nI 0) M) : wp_X7_in a lo hi M Q := by
  refine ⟨fun _ => hq, fun g => ⟨fun _ => hq, fun g2 => ?_⟩⟩
  rcases h with h | h
  · exact absurd h g
  · exact absurd h g2
theorem w7y (h1 : ¬ a < lo) (h2 : ¬ hi < a) (hq : Q (nI 1) M) : wp_X7_in a lo hi M Q := ⟨fun h => absurd h h1, fun _ => ⟨fun h => absurd h h2, fun _ => hq⟩⟩
end W
theorem and01 : nI 0 &&& 1 = nI 0 ∧ nI 1 &&& 1 = nI 1 := by decide
section A
variable {a : Int32} {M : gh_M} {Q : Int32 → gh_M → Prop} {n u : Nat}
theorem c_isTn (h : M 6 0 1 = nI n) (hb : a < nI 0 ∨ nI n - nI 1 < a) (hq : Q (nI 0) M) : wp_X6_isTrick a M Q := by
  unfold wp_X6_isTrick; rw [h]; exact w6n hb ⟨and01.1, hq⟩
theorem c_isTy (h : M 6 0 1 = nI n) (hu : u < n) (hn : n < 2 ^ 31) (hq : Q (nI 1) M) : wp_X6_isTrick (nI u) M Q := by
  unfold wp_X6_isTrick; rw [h]; exact w6y (nI_nlt (by omega) (by omega)) (nI_top hu hn) ⟨and01.2, hq⟩
theorem c_isCn (h : M 6 0 2 = nI n) (hb : a < nI 0 ∨ nI n - nI 1 < a) (hq : Q (nI 0) M) : wp_X6_isCar a M Q := by
  unfold wp_X6_isCar; rw [h]; exact w6n hb ⟨and01.1, hq⟩
theorem c_isCy (h : M 6 0 2 = nI n) (hu : u < n) (hn : n < 2 ^ 31) (hq : Q (nI 1) M) : wp_X6_isCar (nI u) M Q := by
  unfold wp_X6_isCar; rw [h]; exact w6y (nI_nlt (by omega) (by omega)) (nI_top hu hn) ⟨and01.2, hq⟩
theorem c_isLn (h : M 6 0 0 = nI n) (hb : a < nI 0 ∨ nI n - nI 1 < a) (hq : Q (nI 0) M) : wp_X6_isCell a M Q := by
  unfold wp_X6_isCell; rw [h]; exact w6n hb ⟨and01.1, hq⟩
theorem c_isLy (h : M 6 0 0 = nI n) (hu : u < n) (hn : n < 2 ^ 31) (hq : Q (nI 1) M) : wp_X6_isCell (nI u) M Q := by
  unfold wp_X6_isCell; rw [h]; exact w6y (nI_nlt (by omega) (by omega)) (nI_top hu hn) ⟨and01.2, hq⟩
theorem r_isTn (h : M 33 0 1 = nI n) (hb : a < nI 0 ∨ nI n - nI 1 < a) (hq : Q (nI 0) M) : wp_X7_isTrick a M Q := by
  unfold wp_X7_isTrick; rw [nI_clamp (by omega), h]; exact ⟨vp_in_nI (by omega) (by omega), w7n hb ⟨and01.1, hq⟩⟩
theorem r_isTy (h : M 33 0 1 = nI n) (hu : u < n) (hn : n < 2 ^ 31) (hq : Q (nI 1) M) : wp_X7_isTrick (nI u) M Q := by
  unfold wp_X7_isTrick; rw [nI_clamp (by omega), h]; exact ⟨vp_in_nI (by omega) (by omega), w7y (nI_nlt (by omega) (by omega)) (nI_top hu hn) ⟨and01.2, hq⟩⟩
theorem r_isCn (h : M 33 0 2 = nI n) (hb : a < nI 0 ∨ nI n - nI 1 < a) (hq : Q (nI 0) M) : wp_X7_isCar a M Q := by
  unfold wp_X7_isCar; rw [nI_clamp (by omega), h]; exact ⟨vp_in_nI (by omega) (by omega), w7n hb ⟨and01.1, hq⟩⟩
theorem r_isCy (h : M 33 0 2 = nI n) (hu : u < n) (hn : n < 2 ^ 31) (hq : Q (nI 1) M) : wp_X7_isCar (nI u) M Q := by
  unfold wp_X7_isCar; rw [nI_clamp (by omega), h]; exact ⟨vp_in_nI (by omega) (by omega), w7y (nI_nlt (by omega) (by omega)) (nI_top hu hn) ⟨and01.2, hq⟩⟩
theorem r_isLn (h : M 33 0 0 = nI n) (hb : a < nI 0 ∨ nI n - nI 1 < a) (hq : Q (nI 0) M) : wp_X7_isCell a M Q := by
  unfold wp_X7_isCell; rw [nI_clamp (by omega), h]; exact ⟨vp_in_nI (by omega) (by omega), w7n hb ⟨and01.1, hq⟩⟩
theorem r_isLy (h : M 33 0 0 = nI n) (hu : u < n) (hn : n < 2 ^ 31) (hq : Q (nI 1) M) : wp_X7_isCell (nI u) M Q := by
  unfold wp_X7_isCell; rw [nI_clamp (by omega), h]; exact ⟨vp_in_nI (by omega) (by omega), w7y (nI_nlt (by omega) (by omega)) (nI_top hu hn) ⟨and01.2, hq⟩⟩
theorem c_hasn (h : M 6 0 2 = nI 0) (hq : Q (nI 0) M) : wp_X6_hasTrain M Q := by
  unfold wp_X6_hasTrain; rw [h]; exact ⟨fun _ => hq, fun g => absurd (by decide) g⟩
theorem c_hasy (h : M 6 0 2 = nI n) (h0 : 0 < n) (hn : n < 2 ^ 31) (hq : Q (nI 1) M) : wp_X6_hasTrain M Q := by
  unfold wp_X6_hasTrain; rw [h]; exact ⟨fun g => absurd g (nI_nle h0 hn), fun _ => hq⟩
theorem r_hasn (h : M 33 0 0 = nI 0) (hq : Q (nI 0) M) : wp_X7_isTrain M Q := by
  unfold wp_X7_isTrain; rw [nI_clamp (by omega), h]; exact ⟨vp_in_nI (by omega) (by omega), fun _ => hq, fun g => absurd (by decide) g⟩
theorem r_hasy (h : M 33 0 0 = nI n) (h0 : 0 < n) (hn : n < 2 ^ 31) (hq : Q (nI 1) M) : wp_X7_isTrain M Q := by
  unfold wp_X7_isTrain; rw [nI_clamp (by omega), h]; exact ⟨vp_in_nI (by omega) (by omega), fun g => absurd g (nI_nle h0 hn), fun _ => hq⟩
end A
theorem z0 : (nI 0 = 0) = True := eq_true rfl
theorem z1 : (nI 1 = 0) = False := eq_false (by decide)
theorem t01 {P : Prop} : (True → P) = P := by simp
theorem oneIf_id {v : Int32} {M : gh_M} {Q : Int32 → gh_M → Prop} (hv : v = nI 0 ∨ v = nI 1) (hq : Q v M) : wp_X6_oneIf v M Q := by
  unfold wp_X6_oneIf
  rcases hv with rfl | rfl
  · exact ⟨fun _ => hq, fun h => absurd rfl h⟩
  · exact ⟨fun h => absurd h (by decide), fun _ => hq⟩
/-- a number out of a few: which, or none of them -/
theorem few (a : Int32) (n : Nat) (hn : n < 2 ^ 31) : (∃ u, u ≤ n ∧ a = nI u) ∨ ((a < nI 0 ∨ nI n < a) ∧ ∀ u, u ≤ n → a ≠ nI u) := by
  rcases zb_rng a 0 n (by omega) hn with h | h | ⟨u, -, hu, e⟩
  · exact Or.inr ⟨Or.inl h, fun u hu e => by subst e; exact absurd h (nI_nlt (by omega) (by omega))⟩
  · exact Or.inr ⟨Or.inr h.2, fun u hu e => by subst e; exact absurd h.2 (nI_nlt hu hn)⟩
  · exact Or.inl ⟨u, hu, e⟩
-- what stands: both parts at once
def cCd {M : gh_M} {X : TR} (h : ctr M 0 X) : cd M 0 X.1 X.2.1.2.1 X.2.1.2.2 := by obtain ⟨⟨I, hX, -⟩, -⟩ := h; exact hX.1
theorem cWf {M : gh_M} {t : Nat} {X : TR} (h : ctr M t X) : wf X.1 X.2.1.1 X.2.1.2.1 X.2.1.2.2 := by obtain ⟨⟨I, -, -, hw⟩, -⟩ := h; exact hw
theorem L_trick {a0 a1 : Int32} {M : gh_M} {S : SS} (hC : CS M S) (hR : RS M S) : wp_X6_trick a0 a1 M (fun r1 M1 => wp_X7_trick a0 a1 M1 (fun r2 M2 => r1 = r2 ∧ OKn M2)) := by
  have hOK : OKn M := ⟨S, hC, hR⟩
  have hT := hC.2.2.2.2.2.2.1
  have hT2 := hR.2.2.2.2.2.1
  obtain ⟨e0, e1, e2, b0, b1, b2⟩ := hT.hd
  obtain ⟨f0, f1, f2⟩ := hT2.hd hT.ok
  generalize S.2.2.2.2.1 = o at *
  unfold wp_X6_trick wp_X7_trick
  rcases ix a0 (ont o) (by omega) with ⟨u, hu, rfl⟩ | hb
  · refine c_isTy e1 hu (by omega) ?_
    simp only [z1, not_false_eq_true, t01, false_implies, and_true]
    cases o with
    | none => exact absurd hu (Nat.not_lt_zero _)
    | some X =>
      have hd := cCd hT.2
      have hw := cWf hT.2
      have hu' : u < X.2.1.2.1 := hu
      have hr : rr M 0 X.1 := hT2
      have b1' : X.2.1.2.1 ≤ 5 := b1
      have key : ∀ r1 w, w ≤ 3 → r1 = X.1 (4 + 5 * u + 1 + w) → wp_X7_isTrick (nI u) M (fun r1_1 M2 => ((r1_1 = 0 → r1 = (-1000001 : Int32) ∧ OKn M2) ∧ (¬ r1_1 = 0 → wp_X7_in (nI w) (nI 0) (nI 3) M2 (fun r4 M5 => ((r4 = 0 → r1 = (-1000001 : Int32) ∧ OKn M5) ∧ (¬ r4 = 0 → wp_X7_trickAt (nI 0) (nI u) M5 (fun r7 M8 => (vp_in ((r7 + (nI 1)) + nI w) 1988 ∧ (r1 = (M8 33 0 ((r7 + (nI 1)) + nI w).toNatClampNeg) ∧ OKn M8))))))))) := by
        intro r1 w hw e
        refine r_isTy f1 hu (by omega) ?_
        simp only [z1, not_false_eq_true, t01, false_implies, true_and]
        refine w7y (nI_nlt (by omega) (by omega)) (nI_nlt hw (by omega)) ?_
        simp only [z1, not_false_eq_true, t01, false_implies, true_and]
        unfold wp_X7_trickAt
        simp (disch := omega) only [nI_add, pk_mul, nI_clamp, zb_in, true_and]
        refine ⟨?_, hOK⟩
        rw [e, hr.at0 (i := 4 + 5 * u + 1 + w) (by omega) (by omega)]
      rcases few a1 3 (by omega) with ⟨w, hw3, rfl⟩ | ⟨hb, hne⟩
      · simp (disch := omega) only [nI_clamp, zb_in, true_and, hd.k1, hd.k2, hd.k3, hd.k4, nI_eq]
        refine ⟨fun h => key _ w hw3 (by subst h; rfl), fun h => ⟨fun h2 => key _ w hw3 (by subst h2; rfl), fun h2 => ⟨fun h3 => ?_, fun h3 => ⟨fun h4 => key _ w hw3 (by subst h4; rfl), fun h4 => by omega⟩⟩⟩⟩
        subst h3
        exact oneIf_id (hw.2.1 u hu') (key _ 2 hw3 rfl)
      · refine ⟨fun h => absurd h (hne 0 (by omega)), fun _ => ⟨fun h => absurd h (hne 1 (by omega)), fun _ => ⟨fun h => absurd h (hne 2 (by omega)), fun _ => ⟨fun h => absurd h (hne 3 (by omega)), fun _ => ?_⟩⟩⟩⟩
        refine r_isTy f1 hu (by omega) ?_
        simp only [z1, not_false_eq_true, t01, false_implies, true_and]
        refine w7n hb ?_
        simp only [z0, not_true_eq_false, t01, false_implies, and_true]
        exact hOK
  · refine c_isTn e1 hb ?_
    simp only [z0, not_true_eq_false, t01, false_implies, true_and]
    refine r_isTn f1 hb ?_
    simp only [z0, not_true_eq_false, t01, false_implies, and_true]
    exact hOK
