-- ACTS: the reference, and the calls
theorem RS.tr {M M' : gh_M} {S : SS} {X : TR} (h : RS M S) (e : ∀ a b i, ¬ (a = 33 ∧ b = 0 ∧ i < 71) → ¬ (a = 32 ∧ b = 0 ∧ i = 5) → ¬ (a = 34 ∨ a = 36) → M' a b i = M a b i) (hr : rr M' 0 X.1) : RS M' (stT S X) := by
  obtain ⟨h1, h2, h3, h4, h5, h6, h7, h8⟩ := h
  have er : ∀ x T, 71 ≤ x → rr M x T → rr M' x T := fun x T hx g i hi => (e 33 0 (x + i) (by omega) (by omega) (by omega)).trans (g i hi)
  refine ⟨h1.mv (fun a i q => e a 0 i (by omega) (by omega) (by omega)), ⟨?_, fun i hi => ?_⟩, ?_, ?_, ⟨?_, fun i hi => ?_⟩, hr, ⟨?_, fun i hi => ?_⟩, ⟨?_, fun k hk X hX => ?_⟩⟩
  · rw [e 32 0 8 (by omega) (by omega) (by omega)]; exact h2.1
  · rw [e 37 0 i (by omega) (by omega) (by omega)]; exact h2.2 i hi
  · rw [e 32 0 9 (by omega) (by omega) (by omega)]; exact h3
  · rw [e 32 0 13 (by omega) (by omega) (by omega)]; exact h4
  · rw [e 32 0 15 (by omega) (by omega) (by omega)]; exact h5.1
  · rw [e 41 0 i (by omega) (by omega) (by omega)]; exact h5.2 i hi
  · rw [e 32 0 1 (by omega) (by omega) (by omega)]; exact h7.1
  · exact er _ _ (by omega) (h7.2 i hi)
  · rw [e 32 0 2 (by omega) (by omega) (by omega)]; exact h8.1
  · exact er _ _ (by omega) (h8.2 k hk X hX)
def ra (M M' : gh_M) : Prop := ∀ a b i, ¬ (a = 33 ∧ b = 0 ∧ 71 ≤ i ∧ i < 1775) → ¬ (a = 32 ∧ b = 0 ∧ i = 1) → M' a b i = M a b i
theorem RS.ac {M M' : gh_M} {S : SS} (h : RS M S) (e : ra M M') {n : Nat} {B : Nat → TT} (hn : M' 32 0 1 = nI n) (hB : ∀ i, i < n → rr M' (71 + 71 * i) (B i)) : RS M' (S.1, S.2.1, S.2.2.1, S.2.2.2.1, S.2.2.2.2.1, (n, B), S.2.2.2.2.2.2) := by
  obtain ⟨h1, h2, h3, h4, h5, h6, h7, h8⟩ := h
  have er : ∀ x T, x + 71 ≤ 71 ∨ 1775 ≤ x → rr M x T → rr M' x T := fun x T hx g i hi => (e 33 0 (x + i) (by omega) (by omega)).trans (g i hi)
  refine ⟨h1.mv (fun a i q => e a 0 i (by omega) (by omega)), ⟨?_, fun i hi => ?_⟩, ?_, ?_, ⟨?_, fun i hi => ?_⟩, ?_, ⟨hn, hB⟩, ⟨?_, fun k hk X hX => ?_⟩⟩
  · rw [e 32 0 8 (by omega) (by omega)]; exact h2.1
  · rw [e 37 0 i (by omega) (by omega)]; exact h2.2 i hi
  · rw [e 32 0 9 (by omega) (by omega)]; exact h3
  · rw [e 32 0 13 (by omega) (by omega)]; exact h4
  · rw [e 32 0 15 (by omega) (by omega)]; exact h5.1
  · rw [e 41 0 i (by omega) (by omega)]; exact h5.2 i hi
  · show rTrn M' S.2.2.2.2.1
    unfold rTrn at h6 ⊢
    cases q : S.2.2.2.2.1 with
    | none =>
      rw [q] at h6
      show M' 33 0 0 = nI 0 ∧ M' 33 0 1 = nI 0 ∧ M' 33 0 2 = nI 0 ∧ M' 33 0 3 = nI 0
      rw [e 33 0 0 (by omega) (by omega), e 33 0 1 (by omega) (by omega), e 33 0 2 (by omega) (by omega), e 33 0 3 (by omega) (by omega)]
      exact h6
    | some X => rw [q] at h6; exact er _ _ (by omega) h6
  · rw [e 32 0 2 (by omega) (by omega)]; exact h8.1
  · exact er _ _ (by omega) (h8.2 k hk X hX)
theorem RS.trn {M : gh_M} {S : SS} {X : TR} (h : RS M S) (hX : S.2.2.2.2.1 = some X) : rr M 0 X.1 := by
  have := h.2.2.2.2.2.1
  rw [hX] at this
  exact this
theorem CS.trn {M : gh_M} {S : SS} {X : TR} (h : CS M S) (hX : S.2.2.2.2.1 = some X) : trOK X ∧ ctr M 0 X := by
  have := h.2.2.2.2.2.2.1
  rw [hX] at this
  exact this
theorem e71 (n : Nat) : nI 71 + nI 71 * nI n = nI (71 + 71 * n) := by rw [pk_mul, nI_add]
theorem r_rem_l {M0 : gh_M} {B : Nat → TT} {Q : gh_M → Prop} (hQ : ∀ M', (∀ i, i < 23 → rr M' (71 + 71 * i) (B (i + 1))) → (∀ i, i < 71 → M' 33 0 (71 + 71 * 23 + i) = M0 33 0 i) → M' 32 0 1 = nI 24 → ra M0 M' → Q M') :
    ∀ (r k : Nat) (M : gh_M), k + r = 24 → 1 ≤ k → (∀ i, i + 1 < k → rr M (71 + 71 * i) (B (i + 1))) → (∀ i, k ≤ i + 1 → i < 24 → rr M (71 + 71 * i) (B i)) → M 32 0 1 = nI 24 → ra M0 M → wl_X7_remember_11 Q (r + 1) (nI k) M := by
  intro r
  induction r with
  | zero =>
    intro k M hk hk1 hA hB hn hf
    have : k = 24 := by omega
    subst this
    unfold wl_X7_remember_11
    refine ⟨fun _ => ?_, fun h => absurd (Int32.le_refl _) h⟩
    rintro M6 e6
    have e61 : M6 32 0 1 = nI 23 := by rw [e6, zb_s, hn]; decide
    rw [e61, e71]
    have m6 : ∀ a b i, ¬ (a = 32 ∧ b = 0 ∧ i = 1) → M6 a b i = M a b i := fun a b i q => by rw [e6, zb_st, if_neg q]
    refine r_copyRow (x := 0) (by omega) (by omega) (by omega) (fun M8 h8 g8 => ?_)
    rintro M9 e9
    have m9 : ∀ a b i, ¬ (a = 32 ∧ b = 0 ∧ i = 1) → M9 a b i = M8 a b i := fun a b i q => by rw [e9, zb_st, if_neg q]
    refine hQ M9 (fun i hi j hj => ?_) (fun i hi => ?_) ?_ (fun a b i q1 q2 => ?_)
    · rw [m9 _ _ _ (by omega), g8 _ _ _ (by omega), m6 _ _ _ (by omega)]; exact hA i (by omega) j hj
    · rw [m9 _ _ _ (by omega), h8 i hi, m6 _ _ _ (by omega), hf _ _ _ (by omega) (by omega), Nat.zero_add]
    · rw [e9, zb_s, g8 _ _ _ (by omega), e61]; decide
    · rw [m9 _ _ _ q2, g8 _ _ _ (by omega), m6 _ _ _ q2]; exact hf a b i q1 q2
  | succ r ih =>
    intro k M hk hk1 hA hB hn hf
    unfold wl_X7_remember_11
    refine ⟨fun h => absurd h (nI_ge (by omega) (by omega)), fun _ => ?_⟩
    rw [pk_sub (by omega), e71, e71]
    refine r_copyRow (by omega) (by omega) (by omega) (fun M8 h8 g8 => ?_)
    rintro y rfl
    rw [nI_add]
    refine ih (k + 1) M8 (by omega) (by omega) (fun i hi j hj => ?_) (fun i hi hi2 j hj => ?_) ?_ (fun a b i q1 q2 => ?_)
    · by_cases e : i + 1 = k
      · subst e
        have := h8 j hj
        rw [show i + 1 - 1 = i by omega] at this
        rw [this]
        exact hB (i + 1) (by omega) (by omega) j hj
      · rw [g8 _ _ _ (by omega)]; exact hA i (by omega) j hj
    · rw [g8 _ _ _ (by omega)]; exact hB i (by omega) hi2 j hj
    · rw [g8 _ _ _ (by omega)]; exact hn
    · rw [g8 _ _ _ (by omega)]; exact hf a b i q1 q2
theorem r_rem {M : gh_M} {S : SS} {X : TR} (h : RS M S) (hX : S.2.2.2.2.1 = some X) (hn : S.2.2.2.2.2.1.1 ≤ 24) {Q : gh_M → Prop} (hQ : ∀ M', RS M' (actS S X) → ra M M' → Q M') : wp_X7_remember M Q := by
  have h7 := h.2.2.2.2.2.2.1
  have hr := h.trn hX
  obtain ⟨h71, h72⟩ := h7
  unfold wp_X7_remember
  rw [h71]
  by_cases q : S.2.2.2.2.2.1.1 = 24
  · refine ⟨fun z => absurd (by rw [q]) z, fun _ => ⟨24, ?_⟩⟩
    rw [q] at h71
    refine r_rem_l (M0 := M) (B := S.2.2.2.2.2.1.2) (fun M' g1 g2 g3 g4 => hQ M' (h.ac g4 (by rw [g3]; unfold actN; rw [if_pos q]) (fun i hi j hj => ?_)) g4) 23 1 M (by omega) (by omega) (fun i hi => by omega) (fun i _ hi => h72 i (by omega)) h71 (fun _ _ _ _ _ => rfl)
    unfold actN at hi
    rw [if_pos q] at hi
    unfold actB
    rw [if_pos q]
    by_cases q2 : i = 23
    · subst q2
      rw [if_pos rfl, g2 j hj]
      exact hr.at0 hj rfl
    · rw [if_neg q2]; exact g1 i (by omega) j hj
  · refine ⟨fun _ => ?_, fun z => absurd (zb_nI_inj z (by omega) (by omega)) q⟩
    rw [e71]
    refine r_copyRow (x := 0) (by omega) (by omega) (by omega) (fun M3 h3 g3 => ?_)
    rintro M4 e4
    have m4 : ∀ a b i, ¬ (a = 32 ∧ b = 0 ∧ i = 1) → M4 a b i = M3 a b i := fun a b i q => by rw [e4, zb_st, if_neg q]
    have fr : ra M M4 := fun a b i q1 q2 => by rw [m4 _ _ _ q2, g3 _ _ _ (by omega)]
    refine hQ M4 (h.ac fr ?_ (fun i hi j hj => ?_)) fr
    · rw [e4, zb_s, g3 _ _ _ (by omega), h71, nI_add]; unfold actN; rw [if_neg q]
    · unfold actN at hi
      rw [if_neg q] at hi
      unfold actB
      rw [if_neg q, m4 _ _ _ (by omega)]
      by_cases q2 : i = S.2.2.2.2.2.1.1
      · rw [if_pos q2, q2, h3 j hj, Nat.zero_add]; exact hr.at0 hj rfl
      · rw [if_neg q2, g3 _ _ _ (by omega)]; exact h72 i (by omega) j hj
theorem ra.fC {M M' : gh_M} (h : ra M M') : fC M M' := fun a b q => funext fun i => h a b i (by omega) (by omega)
theorem ra.rr {M M' : gh_M} (h : ra M M') {T : TT} (g : rr M 0 T) : rr M' 0 T := fun i hi => (h 33 0 (0 + i) (by omega) (by omega)).trans (g i hi)
/-- the reference's train with one number changed -/
theorem RS.t1 {M : gh_M} {S : SS} {X : TR} (h : RS M S) (hX : S.2.2.2.2.1 = some X) {q i : Nat} {v : Int32} (hq : q = i) (hi : i < 71) : RS (gh_st M 33 0 q v) (stT S (upd X.1 i v, X.2)) :=
  h.tr (X := (upd X.1 i v, X.2)) (fun a b j q1 _ _ => by rw [zb_st, if_neg (by omega)]) ((h.trn hX).st (by omega))
theorem L_place {a0 a1 : Int32} {M : gh_M} {S : SS} (hC : CS M S) (hR : RS M S) : wp_X6_place a0 a1 M (fun r1 M1 => wp_X7_place a0 a1 M1 (fun r2 M2 => r1 = r2 ∧ OKn M2)) := by
  have hOK : OKn M := ⟨S, hC, hR⟩
  have hT := hC.2.2.2.2.2.2.1
  have hT2 := hR.2.2.2.2.2.1
  obtain ⟨e0, e1, e2, b0, b1, b2⟩ := hT.hd
  obtain ⟨f0, f1, f2⟩ := hT2.hd hT.ok
  unfold wp_X6_place wp_X7_place
  rcases ix a0 (ont S.2.2.2.2.1) (by omega) with ⟨u, hu, rfl⟩ | hb
  · refine c_isTy e1 hu (by omega) ?_
    simp only [z1, not_false_eq_true, t01, false_implies, true_and, and_true]
    rcases ix a1 (onc S.2.2.2.2.1) (by omega) with ⟨v, hv, rfl⟩ | hb
    · refine c_isLy e0 hv (by omega) ?_
      simp only [z1, not_false_eq_true, t01, false_implies, true_and, and_true]
      cases hX : S.2.2.2.2.1 with
      | none => rw [hX] at hu; exact absurd hu (Nat.not_lt_zero _)
      | some X =>
        rw [hX] at e0 e1 e2 f0 f1 f2 b0 b1 b2 hu hv
        have hu' : u < X.2.1.2.1 := hu
        have b1' : X.2.1.2.1 ≤ 5 := b1
        obtain ⟨hk, hz, h19⟩ := hC.trn hX
        have hd := hz.cd
        have hr := hR.trn hX
        simp (disch := omega) only [nI_clamp, zb_in, true_and, hd.k1]
        rintro y rfl
        have ea : M 33 0 (4 + 5 * u + 1) = X.1 (4 + 5 * u + 1) := hr.at0 (by omega) rfl
        refine ⟨fun hne => ?_, fun he => ?_⟩
        · refine c_begin hC hX (fun M2 hC2 z6 fr => ?_)
          have hX2 : (actS S X).2.2.2.2.1 = some X := hX
          obtain ⟨hk2, hz2, h192⟩ := hC2.trn hX2
          rintro M3 rfl
          have hC3 := hC2.tz hX2 (hz2.K b1' (f := 1) rfl hu' (by omega) (nI v)) (hk.up (i := 4 + 5 * u + 1) (by omega) (fun c hc => by omega)) z6
          have fr3 := fr.st (k := 8) (t := 0) (j := u) (v := nI v) (by omega)
          have hR3 := hR.fR fr3 hC.n24
          generalize gh_st M2 8 0 u (nI v) = M3 at *
          have hr3 := hR3.trn hX
          refine r_isTy ((fr3 33 0 (by omega) ▸ f1)) hu (by omega) ?_
          simp only [z1, not_false_eq_true, t01, false_implies, true_and, and_true]
          refine r_isLy ((fr3 33 0 (by omega) ▸ f0)) hv (by omega) ?_
          simp only [z1, not_false_eq_true, t01, false_implies, true_and, and_true]
          unfold wp_X7_trickAt
          simp (disch := omega) only [nI_add, pk_mul, nI_clamp, zb_in, true_and]
          rintro y rfl
          rw [hr3.at0 (i := 4 + 5 * u + 1) (by omega) (by omega)]
          refine ⟨fun _ => ?_, fun z => absurd z hne⟩
          refine r_rem hR3 hX hC.n24 (fun M4 hR4 fr4 => ?_)
          rintro M5 rfl
          refine ⟨rfl, stT (actS S X) (upd X.1 (4 + 5 * u + 1) (nI v), X.2), hC3.fC (fr4.fC.st (by omega)), hR4.t1 (X := X) hX (i := 4 + 5 * u + 1) (by omega) (by omega)⟩
        · refine r_isTy f1 hu (by omega) ?_
          simp only [z1, not_false_eq_true, t01, false_implies, true_and, and_true]
          refine r_isLy f0 hv (by omega) ?_
          simp only [z1, not_false_eq_true, t01, false_implies, true_and, and_true]
          unfold wp_X7_trickAt
          simp (disch := omega) only [nI_add, pk_mul, nI_clamp, zb_in, true_and]
          rintro y rfl
          rw [hr.at0 (i := 4 + 5 * u + 1) (by omega) (by omega)]
          exact ⟨fun z => absurd he z, fun _ => hOK⟩
    · refine c_isLn e0 hb ?_
      simp only [z0, not_true_eq_false, t01, false_implies, true_and, and_true]
      refine r_isTy f1 hu (by omega) ?_
      simp only [z1, not_false_eq_true, t01, false_implies, true_and, and_true]
      refine r_isLn f0 hb ?_
      simp only [z0, not_true_eq_false, t01, false_implies, true_and, and_true]
      exact hOK
  · refine c_isTn e1 hb ?_
    simp only [z0, not_true_eq_false, t01, false_implies, true_and, and_true]
    refine r_isTn f1 hb ?_
    simp only [z0, not_true_eq_false, t01, false_implies, true_and, and_true]
    exact hOK
theorem L_flip {a0 : Int32} {M : gh_M} {S : SS} (hC : CS M S) (hR : RS M S) : wp_X6_flip a0 M (fun r1 M1 => wp_X7_flip a0 M1 (fun r2 M2 => r1 = r2 ∧ OKn M2)) := by
  have hOK : OKn M := ⟨S, hC, hR⟩
  have hT := hC.2.2.2.2.2.2.1
  have hT2 := hR.2.2.2.2.2.1
  obtain ⟨e0, e1, e2, b0, b1, b2⟩ := hT.hd
  obtain ⟨f0, f1, f2⟩ := hT2.hd hT.ok
  unfold wp_X6_flip wp_X7_flip
  rcases ix a0 (ont S.2.2.2.2.1) (by omega) with ⟨u, hu, rfl⟩ | hb
  · refine c_isTy e1 hu (by omega) ?_
    simp only [z1, not_false_eq_true, t01, false_implies, true_and, and_true]
    cases hX : S.2.2.2.2.1 with
    | none => rw [hX] at hu; exact absurd hu (Nat.not_lt_zero _)
    | some X =>
      rw [hX] at e0 e1 e2 f0 f1 f2 b0 b1 b2 hu
      have hu' : u < X.2.1.2.1 := hu
      have b1' : X.2.1.2.1 ≤ 5 := b1
      obtain ⟨hk, hz, h19⟩ := hC.trn hX
      refine c_begin hC hX (fun M2 hC2 z6 fr => ?_)
      have hX2 : (actS S X).2.2.2.2.1 = some X := hX
      obtain ⟨hk2, hz2, h192⟩ := hC2.trn hX2
      have hd := hz2.cd
      simp (disch := omega) only [nI_clamp, zb_in, true_and, hd.k3]
      have key : ∀ v v' : Int32, v = nI 0 ∨ v = nI 1 → X.1 (4 + 5 * u + 3) = v' → nI 1 - v' = v → wp_X6_oneIf (gh_st M2 10 0 u v 10 0 u) (gh_st M2 10 0 u v) (fun r11 M12 => wp_X7_isTrick (nI u) M12 (fun r1 M2 => ((¬ r1 = 0 → wp_X7_remember M2 (fun M5 => wp_X7_trickAt (nI 0) (nI u) M5 (fun r6 M7 => wp_X7_trickAt (nI 0) (nI u) M7 (fun r8 M9 => (vp_in (r8 + (nI 3)) 1988 ∧ (vp_in (r6 + (nI 3)) 1988 ∧ ∀ M12, M12 = (gh_st M9 33 0 (r6 + (nI 3)).toNatClampNeg ((nI 1) - (M9 33 0 (r8 + (nI 3)).toNatClampNeg))) → wp_X7_trickAt (nI 0) (nI u) M12 (fun r13 M14 => (vp_in (r13 + (nI 3)) 1988 ∧ (r11 = (M14 33 0 (r13 + (nI 3)).toNatClampNeg) ∧ OKn M14))))))))) ∧ (r1 = 0 → r11 = (-1000001 : Int32) ∧ OKn M2)))) := by
        intro v v' hv hv' hvv
        have hC3 := hC2.tz hX2 (hz2.K3 b1' hu' hv) (hk.up (i := 4 + 5 * u + 3) (by omega) (fun c hc => by omega)) z6
        have fr3 := fr.st (k := 10) (t := 0) (j := u) (v := v) (by omega)
        have hR3 := hR.fR fr3 hC.n24
        rw [zb_s]
        refine oneIf_id hv ?_
        generalize gh_st M2 10 0 u v = M3 at *
        have hr3 := hR3.trn hX
        refine r_isTy ((fr3 33 0 (by omega) ▸ f1)) hu (by omega) ?_
        simp only [z1, not_false_eq_true, t01, false_implies, true_and, and_true]
        refine r_rem hR3 hX hC.n24 (fun M4 hR4 fr4 => ?_)
        unfold wp_X7_trickAt
        simp (disch := omega) only [nI_add, pk_mul, nI_clamp, zb_in, true_and]
        rintro M5 rfl
        have hr4 := fr4.rr hr3
        rw [hr4.at0 (i := 4 + 5 * u + 3) (by omega) (by omega), hv', hvv, zb_s]
        exact ⟨rfl, stT (actS S X) (upd X.1 (4 + 5 * u + 3) v, X.2), hC3.fC (fr4.fC.st (by omega)), hR4.t1 (X := X) hX (i := 4 + 5 * u + 3) (by omega) (by omega)⟩
      have hw := hz2.wf.2.1 u hu'
      refine ⟨fun hne => ?_, fun he => ?_⟩
      · rintro M3 rfl
        have e1 : X.1 (4 + 5 * u + 3) = nI 1 := hw.resolve_left hne
        exact key (nI 0 &&& 1) (nI 1) (by decide) e1 (by decide)
      · rintro M3 rfl
        exact key (nI 1 &&& 1) (nI 0) (by decide) he (by decide)
  · refine c_isTn e1 hb ?_
    simp only [z0, not_true_eq_false, t01, false_implies, true_and, and_true]
    refine r_isTn f1 hb ?_
    simp only [z0, not_true_eq_false, t01, false_implies, true_and, and_true]
    exact hOK
theorem L_nerve {a0 a1 : Int32} {M : gh_M} {S : SS} (hC : CS M S) (hR : RS M S) : wp_X6_nerve a0 a1 M (fun r1 M1 => wp_X7_nerve a0 a1 M1 (fun r2 M2 => r1 = r2 ∧ OKn M2)) := by
  have hOK : OKn M := ⟨S, hC, hR⟩
  have hT := hC.2.2.2.2.2.2.1
  have hT2 := hR.2.2.2.2.2.1
  obtain ⟨e0, e1, e2, b0, b1, b2⟩ := hT.hd
  obtain ⟨f0, f1, f2⟩ := hT2.hd hT.ok
  unfold wp_X6_nerve wp_X7_nerve
  rcases ix a0 (ona S.2.2.2.2.1) (by omega) with ⟨u, hu, rfl⟩ | hb
  · refine c_isCy e2 hu (by omega) ?_
    simp only [z1, not_false_eq_true, t01, false_implies, true_and, and_true]
    by_cases hv : ¬ a1 < nI 1 ∧ ¬ nI 60 < a1
    · refine w6y hv.1 hv.2 ?_
      simp only [z1, not_false_eq_true, t01, false_implies, true_and, and_true]
      cases hX : S.2.2.2.2.1 with
      | none => rw [hX] at hu; exact absurd hu (Nat.not_lt_zero _)
      | some X =>
        rw [hX] at e0 e1 e2 f0 f1 f2 b0 b1 b2 hu
        have hu' : u < X.2.1.2.2 := hu
        have b1' : X.2.1.2.1 ≤ 5 := b1
        have b2' : X.2.1.2.2 ≤ 6 := b2
        obtain ⟨hk, hz, h19⟩ := hC.trn hX
        have hd := hz.cd
        simp (disch := omega) only [nI_clamp, zb_in, true_and, hd.c1]
        rintro y rfl
        refine c_begin hC hX (fun M2 hC2 z6 fr => ?_)
        have hX2 : (actS S X).2.2.2.2.1 = some X := hX
        obtain ⟨hk2, hz2, h192⟩ := hC2.trn hX2
        rintro M3 rfl
        have hC3 := hC2.tz hX2 (hz2.C1 b1' (c := u) a1) (hk.up (i := 29 + 7 * u + 1) (by omega) (fun c hc => by omega)) z6
        have fr3 := fr.st (k := 13) (t := 0) (j := u) (v := a1) (by omega)
        have hR3 := hR.fR fr3 hC.n24
        generalize gh_st M2 13 0 u a1 = M3 at *
        have hr3 := hR3.trn hX
        refine r_isCy ((fr3 33 0 (by omega) ▸ f2)) hu (by omega) ?_
        simp only [z1, not_false_eq_true, t01, false_implies, true_and, and_true]
        refine w7y hv.1 hv.2 ?_
        simp only [z1, not_false_eq_true, t01, false_implies, true_and, and_true]
        refine r_rem hR3 hX hC.n24 (fun M4 hR4 fr4 => ?_)
        unfold wp_X7_carAt
        simp (disch := omega) only [nI_add, pk_mul, nI_clamp, zb_in, true_and]
        rintro y rfl M5 rfl
        rw [(fr4.rr hr3).at0 (i := 29 + 7 * u + 1) (by omega) (by omega)]
        exact ⟨rfl, stT (actS S X) (upd X.1 (29 + 7 * u + 1) a1, X.2), hC3.fC (fr4.fC.st (by omega)), hR4.t1 (X := X) hX (i := 29 + 7 * u + 1) (by omega) (by omega)⟩
    · have hb : a1 < nI 1 ∨ nI 60 < a1 := by
        by_cases q : a1 < nI 1
        · exact Or.inl q
        · by_cases q2 : nI 60 < a1
          · exact Or.inr q2
          · exact absurd ⟨q, q2⟩ hv
      refine w6n hb ?_
      simp only [z0, not_true_eq_false, t01, false_implies, true_and, and_true]
      refine r_isCy f2 hu (by omega) ?_
      simp only [z1, not_false_eq_true, t01, false_implies, true_and, and_true]
      refine w7n hb ?_
      simp only [z0, not_true_eq_false, t01, false_implies, true_and, and_true]
      exact hOK
  · refine c_isCn e2 hb ?_
    simp only [z0, not_true_eq_false, t01, false_implies, true_and, and_true]
    refine r_isCn f2 hb ?_
    simp only [z0, not_true_eq_false, t01, false_implies, true_and, and_true]
    exact hOK
