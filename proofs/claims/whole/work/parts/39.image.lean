-- UNDO, IMAGE, RESTORE
def stA (S : SS) (X : TR) (n : Nat) (B : Nat → TT) : SS := (S.1, S.2.1, S.2.2.1, S.2.2.2.1, some X, (n, B), S.2.2.2.2.2.2)
theorem CS.set {M M' : gh_M} {S : SS} {X : TR} {n : Nat} {B : Nat → TT} (hC : CS M S) (e : ∀ a b, ¬ (b = 0 ∧ 6 ≤ a ∧ a ≤ 20) → a ≠ 21 → a ≠ 24 → M' a b = M a b) (hb : bo M' 0) (hz : trOK X ∧ ctr M' 0 X) (hA : cAct M' (some X) n B) (h6 : M' 24 0 6 = nI 0) : CS M' (stA S X n B) := by
  obtain ⟨h0, h1, h2, h3, h4, h5, g6, h7, h8, h9⟩ := hC
  refine ⟨fun t ht => ?_, h1.mv (fun a b q => e a b (by omega) (by omega) (by omega)), ?_, ?_, ?_, ?_, hz, hA, h8.mv (fun a t q1 q2 q3 q4 => e a t (by omega) (by omega) (by omega)), Or.inl h6⟩
  · by_cases q : t = 0
    · subst q; exact hb
    · have := h0 t ht
      unfold bo at this ⊢
      rw [e 10 t (by omega) (by omega) (by omega), e 18 t (by omega) (by omega) (by omega)]
      exact this
  · unfold cTap at h2 ⊢
    rw [e 4 0 (by omega) (by omega) (by omega), e 5 0 (by omega) (by omega) (by omega)]
    exact h2
  · rw [e 0 0 (by omega) (by omega) (by omega)]; exact h3
  · rw [e 0 0 (by omega) (by omega) (by omega)]; exact h4
  · unfold cTrc at h5 ⊢
    rw [e 30 0 (by omega) (by omega) (by omega), e 31 0 (by omega) (by omega) (by omega)]
    exact h5
theorem RS.set {M M' : gh_M} {S : SS} {X : TR} {n : Nat} (h : RS M S) (e : ∀ a b i, ¬ (a = 33 ∧ b = 0 ∧ i < 71) → ¬ (a = 32 ∧ b = 0 ∧ i = 1) → M' a b i = M a b i) (hr : rr M' 0 X.1) (hn : M' 32 0 1 = nI n) (hle : n ≤ S.2.2.2.2.2.1.1) : RS M' (stA S X n S.2.2.2.2.2.1.2) := by
  obtain ⟨h1, h2, h3, h4, h5, h6, h7, h8⟩ := h
  have er : ∀ x T, 71 ≤ x → rr M x T → rr M' x T := fun x T hx g i hi => (e 33 0 (x + i) (by omega) (by omega)).trans (g i hi)
  refine ⟨h1.mv (fun a i q => e a 0 i (by omega) (by omega)), ⟨?_, fun i hi => ?_⟩, ?_, ?_, ⟨?_, fun i hi => ?_⟩, hr, ⟨hn, fun i hi => ?_⟩, ⟨?_, fun k hk X hX => ?_⟩⟩
  · rw [e 32 0 8 (by omega) (by omega)]; exact h2.1
  · rw [e 37 0 i (by omega) (by omega)]; exact h2.2 i hi
  · rw [e 32 0 9 (by omega) (by omega)]; exact h3
  · rw [e 32 0 13 (by omega) (by omega)]; exact h4
  · rw [e 32 0 15 (by omega) (by omega)]; exact h5.1
  · rw [e 41 0 i (by omega) (by omega)]; exact h5.2 i hi
  · exact er _ _ (by omega) (h7.2 i (Nat.lt_of_lt_of_le hi hle))
  · rw [e 32 0 2 (by omega) (by omega)]; exact h8.1
  · exact er _ _ (by omega) (h8.2 k hk X hX)
theorem ctr.cp {M M' : gh_M} {t u : Nat} {X : TR} (h : cpd 21 t u M M') (hk : trOK X) (hz : ctr M u X) : ctr M' t X := by
  obtain ⟨⟨k0, k1, k2, b0, b1, b2, k3⟩, -⟩ := hk
  exact ⟨h.cz b0 b1 b2 hz.1, fun k q => by rw [h.rk (Nat.lt_of_lt_of_le q b2)]; exact hz.2 k q⟩
theorem c_bec {M : gh_M} {S : SS} {X : TR} {u : Nat} (hu : u ≠ 0) (hu2 : u < 29) (hC : CS M S) (hk : trOK X) (hz : ctr M u X) {Q : gh_M → Prop} (hQ : ∀ M', CS M' (stA S X 0 S.2.2.2.2.2.1.2) → fR M M' → ctr M' 0 X → Q M') : wp_X6_becomes u M Q := by
  unfold wp_X6_becomes wp_X2_forget
  refine c_copy hu (hC.1 u hu2) (fun M2 h2 => ?_)
  rintro M3 e3 M4 e4
  have f2 := h2.ft
  have e : ∀ a b, ¬ (b = 0 ∧ 6 ≤ a ∧ a ≤ 20) → a ≠ 21 → a ≠ 24 → M4 a b = M a b := fun a b q q1 q2 => by
    rw [e4, zb_kr _ _ _ _ _ q2, e3, zb_kr _ _ _ _ _ q1]; exact f2 a b q
  have e' : ∀ a, 6 ≤ a → a ≤ 20 → ∀ b, M4 a b = M2 a b := fun a q1 q2 b => by
    rw [e4, zb_kr _ _ _ _ _ (by omega), e3, zb_kr _ _ _ _ _ (by omega)]
  have z4 : ctr M4 0 X := (ctr.cp h2 hk hz).mv (fun a q1 q2 => e' a q1 q2 0)
  have hA := hC.2.2.2.2.2.2.2.1
  obtain ⟨a1, a2, ⟨p, hp, a3, a4⟩, a5⟩ := hA
  refine hQ M4 (hC.set e ?_ ⟨hk, z4⟩ ⟨by omega, ?_, ⟨p, hp, ?_, fun _ _ i hi => absurd hi (Nat.not_lt_zero _)⟩, fun z => by cases z⟩ ?_) (fun a b q => e a b (by omega) (by omega) (by omega)) z4
  · exact z4.1.bo
  · rw [e4, zb_k _ _ _ _ _ _ (by omega), e3, zb_s]
  · rw [e4, zb_k _ _ _ _ _ _ (by omega), e3, zb_j _ _ _ _ (by omega), f2 21 0 (by omega)]; exact a3
  · rw [e4, zb_s]
theorem L_undo {M : gh_M} {S : SS} (hC : CS M S) (hR : RS M S) : wp_X6_undo M (fun r1 M1 => wp_X7_undo M1 (fun r2 M2 => r1 = r2 ∧ OKn M2)) := by
  have hOK : OKn M := ⟨S, hC, hR⟩
  have hA := hC.2.2.2.2.2.2.2.1
  obtain ⟨a1, a2, ⟨p, hp, a3, a4⟩, a5⟩ := hA
  have hB := hR.2.2.2.2.2.2.1
  obtain ⟨r1, r2⟩ := hB
  unfold wp_X6_undo wp_X7_undo wp_X0_takeBack wp_X2_forget
  rw [a2]
  refine ⟨fun hne => ?_, fun he => ?_⟩
  · have hn : S.2.2.2.2.2.1.1 ≠ 0 := fun e => hne (by rw [e]; rfl)
    cases hX : S.2.2.2.2.1 with
    | none => exact absurd (a5 hX) hn
    | some X =>
      refine ⟨by decide, ?_⟩
      rintro M2 e2 M3 e3
      rw [a3, mb24 hp] at e2
      have e22 : M2 21 0 2 = nI S.2.2.2.2.2.1.1 := by rw [e2, zb_j _ _ _ _ (by omega)]; exact a2
      rw [e22, pk_sub (by omega)] at e3
      have e31 : M3 21 0 1 = nI ((p + 23) % 24) := by rw [e3, zb_j _ _ _ _ (by omega), e2, zb_s]
      rw [e31, nI_clamp (by omega)]
      refine ⟨vp_in_nI (Nat.mod_lt _ (by omega)) (by omega), ?_⟩
      rintro j hj rfl
      have m3 : ∀ a b, a ≠ 21 → M3 a b = M a b := fun a b q => by rw [e3, zb_kr _ _ _ _ _ q, e2, zb_kr _ _ _ _ _ q]
      have hb3 : bo M3 (2 + (p + 23) % 24) := by
        have := hC.1 (2 + (p + 23) % 24) (by omega)
        unfold bo at this ⊢
        rw [m3 10 _ (by omega), m3 18 _ (by omega)]
        exact this
      obtain ⟨okB, zB⟩ := a4 X hX (S.2.2.2.2.2.1.1 - 1) (by omega)
      rw [show 2 + (p + 24 - S.2.2.2.2.2.1.1 + (S.2.2.2.2.2.1.1 - 1)) % 24 = 2 + (p + 23) % 24 by omega] at zB
      have zB3 : ctr M3 (2 + (p + 23) % 24) (S.2.2.2.2.2.1.2 (S.2.2.2.2.2.1.1 - 1), X.2) := zB.mv (fun a q1 q2 => m3 a _ (by omega))
      refine c_copy (by omega) hb3 (fun M4 h4 => ?_)
      rintro M5 e5
      have f4 := h4.ft
      have e : ∀ a b, ¬ (b = 0 ∧ 6 ≤ a ∧ a ≤ 20) → a ≠ 21 → a ≠ 24 → M5 a b = M a b := fun a b q q1 q2 => by
        rw [e5, zb_kr _ _ _ _ _ q2, f4 a b q, m3 a b q1]
      have z5 : ctr M5 0 (S.2.2.2.2.2.1.2 (S.2.2.2.2.2.1.1 - 1), X.2) := (ctr.cp h4 okB zB3).mv (fun a q1 q2 => by rw [e5, zb_kr _ _ _ _ _ (by omega)])
      have e52 : M5 21 0 2 = nI (S.2.2.2.2.2.1.1 - 1) := by rw [e5, zb_k _ _ _ _ _ _ (by omega), f4 21 0 (by omega), e3, zb_s]
      have hC5 : CS M5 (stA S (S.2.2.2.2.2.1.2 (S.2.2.2.2.2.1.1 - 1), X.2) (S.2.2.2.2.2.1.1 - 1) S.2.2.2.2.2.1.2) := by
        refine hC.set e z5.1.bo ⟨okB, z5⟩ ⟨by omega, e52, ⟨(p + 23) % 24, Nat.mod_lt _ (by omega), ?_, fun Y hY i hi => ?_⟩, fun z => by cases z⟩ (by rw [e5, zb_s])
        · rw [e5, zb_k _ _ _ _ _ _ (by omega), f4 21 0 (by omega)]; exact e31
        · injection hY with hY
          subst hY
          obtain ⟨okC, zC⟩ := a4 X hX i (by omega)
          refine ⟨okC, ?_⟩
          have eq : ((p + 23) % 24 + 24 - (S.2.2.2.2.2.1.1 - 1) + i) % 24 = (p + 24 - S.2.2.2.2.2.1.1 + i) % 24 := by omega
          rw [eq]
          exact zC.mv (fun a q1 q2 => e a _ (by omega) (by omega) (by omega))
      have fr : fR M M5 := fun a b q => e a b (by omega) (by omega) (by omega)
      have hR5 := hR.fR fr hC.n24
      rw [e52]
      dsimp only
      rw [fr 32 0 (by omega), r1]
      refine ⟨fun _ => ?_, fun z => absurd z hne⟩
      rintro M6 e6
      rw [pk_sub (by omega)] at e6
      have e61 : M6 32 0 1 = nI (S.2.2.2.2.2.1.1 - 1) := by rw [e6, zb_s]
      rw [e61, e71]
      have m6 : ∀ a b i, ¬ (a = 32 ∧ b = 0 ∧ i = 1) → M6 a b i = M5 a b i := fun a b i q => by rw [e6, zb_st, if_neg q]
      refine r_copyRow (y := 0) (by omega) (by omega) (by omega) (fun M7 h7 g7 => ?_)
      have e71 : M7 32 0 1 = nI (S.2.2.2.2.2.1.1 - 1) := by rw [g7 _ _ _ (by omega)]; exact e61
      refine ⟨e71.symm, _, hC5.fC (fun a b q => funext fun i => ?_), hR5.set (X := (S.2.2.2.2.2.1.2 (S.2.2.2.2.2.1.1 - 1), X.2)) (fun a b i q1 q2 => ?_) (fun i hi => ?_) e71 (by omega)⟩
      · rw [g7 _ _ _ (by omega), m6 _ _ _ (by omega)]
      · rw [g7 _ _ _ (by omega), m6 _ _ _ q2]
      · rw [h7 i hi, m6 _ _ _ (by omega)]
        exact hR5.2.2.2.2.2.2.1.2 (S.2.2.2.2.2.1.1 - 1) (by omega) i hi
  · dsimp only
    rw [r1]
    exact ⟨fun z => absurd he z, fun _ => ⟨rfl, hOK⟩⟩
-- IMAGE, RESTORE
def stI (S : SS) (X : TR) (k : Nat) : SS := (S.1, S.2.1, S.2.2.1, S.2.2.2.1, S.2.2.2.2.1, S.2.2.2.2.2.1, fun q => if q = k then some X else S.2.2.2.2.2.2 q)
theorem kb_or {im : Nat → Option TR} {X : TR} {k : Nat} (hk : k < 2) : nI (kb im) ||| (nI 1 <<< (nI k &&& 31)) = nI (kb (fun q => if q = k then some X else im q)) := by
  unfold kb
  have : k = 0 ∨ k = 1 := by omega
  rcases this with rfl | rfl
  · show _ = nI ((if true = true then 1 else 0) + 2 * (if (im 1).isSome = true then 1 else 0))
    generalize (im 0).isSome = x
    generalize (im 1).isSome = y
    clear X im hk
    revert x y; decide
  · show _ = nI ((if (im 0).isSome = true then 1 else 0) + 2 * (if true = true then 1 else 0))
    generalize (im 0).isSome = x
    generalize (im 1).isSome = y
    clear X im hk
    revert x y; decide
theorem kb_has {im : Nat → Option TR} {k : Nat} (hk : k < 2) : ((nI (kb im) >>> (nI k &&& 31)) &&& nI 1 = nI 1) ↔ (im k).isSome = true := by
  unfold kb
  have : k = 0 ∨ k = 1 := by omega
  rcases this with rfl | rfl
  all_goals
    generalize (im 0).isSome = x
    generalize (im 1).isSome = y
    clear im hk
    revert x y; decide
theorem L_image {a0 : Int32} {M : gh_M} {S : SS} (hC : CS M S) (hR : RS M S) : wp_X6_image a0 M (fun r1 M1 => wp_X7_image a0 M1 (fun r2 M2 => r1 = r2 ∧ OKn M2)) := by
  have hOK : OKn M := ⟨S, hC, hR⟩
  have hT := hC.2.2.2.2.2.2.1
  have hT2 := hR.2.2.2.2.2.1
  obtain ⟨e0, e1, e2, b0, b1, b2⟩ := hT.hd
  obtain ⟨f0, f1, f2⟩ := hT2.hd hT.ok
  unfold wp_X6_image wp_X7_image
  rcases few a0 1 (by omega) with ⟨j, hj, rfl⟩ | ⟨hb, -⟩
  · refine w6y (nI_nlt (by omega) (by omega)) (nI_nlt hj (by omega)) ?_
    simp only [z1, not_false_eq_true, t01, false_implies, true_and, and_true]
    cases hX : S.2.2.2.2.1 with
    | none =>
      rw [hX] at e2 f0
      refine c_hasn e2 ?_
      simp only [z0, not_true_eq_false, t01, false_implies, true_and, and_true]
      refine w7y (nI_nlt (by omega) (by omega)) (nI_nlt hj (by omega)) ?_
      simp only [z1, not_false_eq_true, t01, false_implies, true_and, and_true]
      refine r_hasn f0 ?_
      simp only [z0, not_true_eq_false, t01, false_implies, true_and, and_true]
      exact hOK
    | some X =>
      rw [hX] at e0 e1 e2 f0 f1 f2 b0 b1 b2
      obtain ⟨hk, hz⟩ := hC.trn hX
      have hr := hR.trn hX
      have o3 := hk.2.2.2.1
      refine c_hasy e2 (by exact o3) (by omega) ?_
      simp only [z1, not_false_eq_true, t01, false_implies, true_and, and_true]
      rw [nI_clamp (by omega)]
      refine ⟨vp_in_nI (by omega) (by omega), ?_⟩
      rintro _ _ rfl
      refine c_copy (by omega) (hC.1 0 (by omega)) (fun M2 h2 => ?_)
      have f2' := h2.ft
      have z2 : ctr M2 (26 + j) X := ctr.cp h2 hk hz
      have hC2 : CS M2 (stI S X j) := by
        obtain ⟨h0, h1, h2', h3, h4, h5, g6, h7, h8, h9⟩ := hC
        have e : ∀ a b, ¬ (b = 26 + j ∧ 6 ≤ a ∧ a ≤ 20) → M2 a b = M a b := f2'
        refine ⟨fun t ht => ?_, h1.mv (fun a b q => e a b (by omega)), ?_, ?_, ?_, ?_, g6.mv (fun a q1 q2 => e a 0 (by omega)), h7.mv (fun a t q1 q2 q3 q4 => e a t (by omega)) (e 21 0 (by omega)), fun k hk2 => ?_, h9.mv ?_ ?_ ?_⟩
        · by_cases q : t = 26 + j
          · subst q; exact h2.bo (h0 0 (by omega))
          · have := h0 t ht
            unfold bo at this ⊢
            rw [e 10 t (by omega), e 18 t (by omega)]
            exact this
        · unfold cTap at h2' ⊢
          rw [e 4 0 (by omega), e 5 0 (by omega)]
          exact h2'
        · rw [e 0 0 (by omega)]; exact h3
        · rw [e 0 0 (by omega)]; exact h4
        · unfold cTrc at h5 ⊢
          rw [e 30 0 (by omega), e 31 0 (by omega)]
          exact h5
        · show match (if k = j then some X else S.2.2.2.2.2.2 k) with
            | none => M2 6 (26 + k) 2 = nI 0
            | some X => trOK X ∧ ctr M2 (26 + k) X
          by_cases q : k = j
          · subst q
            rw [if_pos rfl]
            exact ⟨hk, z2⟩
          · rw [if_neg q]
            have := h8 k hk2
            cases q8 : S.2.2.2.2.2.2 k with
            | none => rw [q8] at this; show M2 6 (26 + k) 2 = nI 0; rw [e 6 _ (by omega)]; exact this
            | some Y => rw [q8] at this; exact ⟨this.1, this.2.mv (fun a q1 q2 => e a _ (by omega))⟩
        · rw [e 24 0 (by omega)]
        · rw [e 24 0 (by omega)]
        · rw [e 26 0 (by omega)]
      have fr : fR M M2 := f2'.fR
      have hR2 := hR.fR fr hC.n24
      have hr2 := hR2.trn hX
      refine w7y (nI_nlt (by omega) (by omega)) (nI_nlt hj (by omega)) ?_
      simp only [z1, not_false_eq_true, t01, false_implies, true_and, and_true]
      refine r_hasy (fr 33 0 (by omega) ▸ f0) (by have : 4 ≤ X.2.1.1 := hk.2.1; exact Nat.lt_of_lt_of_le (by omega) this) (by omega) ?_
      simp only [z1, not_false_eq_true, t01, false_implies, true_and, and_true]
      rw [pk_mul, nI_add]
      refine r_copyRow (x := 0) (by omega) (by omega) (by omega) (fun M3 h3 g3 => ?_)
      rintro M4 e4
      have m4 : ∀ a b i, ¬ (a = 32 ∧ b = 0 ∧ i = 2) → M4 a b i = M3 a b i := fun a b i q => by rw [e4, zb_st, if_neg q]
      have e : ∀ a b i, ¬ (a = 33 ∧ b = 0 ∧ 1775 + 71 * j ≤ i ∧ i < 1775 + 71 * j + 71) → ¬ (a = 32 ∧ b = 0 ∧ i = 2) → M4 a b i = M2 a b i := fun a b i q1 q2 => by rw [m4 _ _ _ q2, g3 _ _ _ q1]
      have n24 := hC.n24
      refine ⟨stI S X j, hC2.fC (fun a b q => funext fun i => e a b i (by omega) (by omega)), ?_⟩
      obtain ⟨h1, h2', h3', h4, h5, h6, h7, h8⟩ := hR2
      have er : ∀ x T, x + 71 ≤ 1775 → rr M2 x T → rr M4 x T := fun x T hx g i hi => (e 33 0 (x + i) (by omega) (by omega)).trans (g i hi)
      refine ⟨h1.mv (fun a i q => e a 0 i (by omega) (by omega)), ⟨?_, fun i hi => ?_⟩, ?_, ?_, ⟨?_, fun i hi => ?_⟩, ?_, ⟨?_, fun i hi => ?_⟩, ⟨?_, fun k hk2 Y hY => ?_⟩⟩
      · rw [e 32 0 8 (by omega) (by omega)]; exact h2'.1
      · rw [e 37 0 i (by omega) (by omega)]; exact h2'.2 i hi
      · rw [e 32 0 9 (by omega) (by omega)]; exact h3'
      · rw [e 32 0 13 (by omega) (by omega)]; exact h4
      · rw [e 32 0 15 (by omega) (by omega)]; exact h5.1
      · rw [e 41 0 i (by omega) (by omega)]; exact h5.2 i hi
      · show rTrn M4 S.2.2.2.2.1
        rw [hX]
        exact er 0 X.1 (by omega) hr2
      · rw [e 32 0 1 (by omega) (by omega)]; exact h7.1
      · have hi' : i < S.2.2.2.2.2.1.1 := hi
        exact er _ _ (by omega) (h7.2 i hi)
      · rw [e4, zb_s, g3 _ _ _ (by omega), h8.1]; exact kb_or (by omega)
      · have hY' : (if k = j then some X else S.2.2.2.2.2.2 k) = some Y := hY
        by_cases q : k = j
        · subst q
          rw [if_pos rfl] at hY'
          injection hY' with hY'
          subst hY'
          intro i hi
          rw [m4 _ _ _ (by omega), h3 i hi]
          exact hr2 i hi
        · rw [if_neg q] at hY'
          intro i hi
          rw [e 33 0 _ (by omega) (by omega)]
          exact h8.2 k hk2 Y hY' i hi
  · refine w6n hb ?_
    simp only [z0, not_true_eq_false, t01, false_implies, true_and, and_true]
    refine w7n hb ?_
    simp only [z0, not_true_eq_false, t01, false_implies, true_and, and_true]
    exact hOK
theorem L_restore {a0 : Int32} {M : gh_M} {S : SS} (hC : CS M S) (hR : RS M S) : wp_X6_restore a0 M (fun r1 M1 => wp_X7_restore a0 M1 (fun r2 M2 => r1 = r2 ∧ OKn M2)) := by
  have hOK : OKn M := ⟨S, hC, hR⟩
  have hI := hC.2.2.2.2.2.2.2.2.1
  have hJ := hR.2.2.2.2.2.2.2
  unfold wp_X6_restore wp_X7_restore
  rcases few a0 1 (by omega) with ⟨j, hj, rfl⟩ | ⟨hb, -⟩
  · refine w6y (nI_nlt (by omega) (by omega)) (nI_nlt hj (by omega)) ?_
    simp only [z1, not_false_eq_true, t01, false_implies, true_and, and_true]
    rw [nI_clamp (by omega)]
    refine ⟨vp_in_nI (by omega) (by omega), ?_⟩
    rintro _ _ rfl
    have hIj := hI j (by omega)
    have hh := kb_has (im := S.2.2.2.2.2.2) (k := j) (by omega)
    cases hX : S.2.2.2.2.2.2 j with
    | none =>
      rw [hX] at hIj hh
      have hIj : M 6 (26 + j) 2 = nI 0 := hIj
      refine ⟨fun z => absurd hIj z, fun _ => ?_⟩
      refine w7y (nI_nlt (by omega) (by omega)) (nI_nlt hj (by omega)) ?_
      simp only [z1, not_false_eq_true, t01, false_implies, true_and, and_true]
      unfold wp_X7_has
      rw [hJ.1]
      refine ⟨fun _ => ?_, fun z => absurd (hh.mp z) (by decide)⟩
      simp only [z0, not_true_eq_false, t01, false_implies, true_and, and_true]
      exact hOK
    | some X =>
      rw [hX] at hIj hh
      obtain ⟨hk, hz⟩ := hIj
      have o3 := hk.2.2.2.1
      have e2 : M 6 (26 + j) 2 = nI X.2.1.2.2 := hz.1.cd.2.2.1.trans hk.hd.2.2.1
      have b2 := hk.hd.2.2.2.2.2.1
      refine ⟨fun _ => ⟨vp_in_nI (by omega) (by omega), ?_⟩, fun z => ?_⟩
      · rintro _ _ rfl
        refine c_bec (by omega) (by omega) hC hk hz (fun M2 hC2 fr z2 => ?_)
        have hR2 := hR.fR fr hC.n24
        refine w7y (nI_nlt (by omega) (by omega)) (nI_nlt hj (by omega)) ?_
        simp only [z1, not_false_eq_true, t01, false_implies, true_and, and_true]
        unfold wp_X7_has
        rw [hR2.2.2.2.2.2.2.2.1]
        refine ⟨fun z => absurd (hh.mpr rfl) z, fun _ => ?_⟩
        simp only [z1, not_false_eq_true, t01, false_implies, true_and, and_true]
        rw [pk_mul, nI_add]
        refine r_copyRow (y := 0) (by omega) (by omega) (by omega) (fun M3 h3 g3 => ?_)
        rintro M4 e4
        have m4 : ∀ a b i, ¬ (a = 32 ∧ b = 0 ∧ i = 1) → M4 a b i = M3 a b i := fun a b i q => by rw [e4, zb_st, if_neg q]
        refine ⟨_, hC2.fC (fun a b q => funext fun i => ?_), hR2.set (X := X) (n := 0) (fun a b i q1 q2 => ?_) (fun i hi => ?_) ?_ (by omega)⟩
        · rw [m4 _ _ _ (by omega), g3 _ _ _ (by omega)]
        · rw [m4 _ _ _ q2, g3 _ _ _ (by omega)]
        · rw [m4 _ _ _ (by omega), h3 i hi]
          exact hR2.2.2.2.2.2.2.2.2 j (by omega) X hX i hi
        · rw [e4, zb_s]
      · rw [e2] at z
        exact absurd (zb_nI_inj (b := 0) z (by omega) (by omega)) (by omega)
  · refine w6n hb ?_
    simp only [z0, not_true_eq_false, t01, false_implies, true_and, and_true]
    refine w7n hb ?_
    simp only [z0, not_true_eq_false, t01, false_implies, true_and, and_true]
    exact hOK
