-- AS, ASK
def okF : Nat → Int32 → Int32 → Int32 → Option Int32
  | 0, _, _, _ => none
  | n + 1, x1, x2, x3 => if nI 6 ≤ x3 then some (nI 0) else if x2 < 0 then some (nI 0) else if nI 6 ≤ x2 then some (nI 0) else if x2 = x1 then some (nI 1) else okF n x1 (gh_tab 0 x2.toNatClampNeg) (x3 + nI 1)
theorem okF_l {M : gh_M} {Q : Int32 → gh_M → Prop} {v : Int32} (hq : Q v M) : ∀ (n : Nat) (x1 x2 x3 : Int32), okF n x1 x2 x3 = some v → wl_X1_isOfKind_4 Q n x1 x2 x3 M
  | 0, _, _, _, h => by cases h
  | n + 1, x1, x2, x3, h => by
    unfold okF at h
    unfold wl_X1_isOfKind_4
    refine ⟨fun g => ?_, fun g => ⟨fun g2 => ?_, fun g2 => ⟨fun g3 => ?_, fun g3 => ⟨fun g4 => ?_, fun g4 => ?_⟩⟩⟩⟩
    · rw [if_pos g] at h; injection h with h; rw [h]; exact hq
    · rw [if_neg g, if_pos g2] at h; injection h with h; rw [h]; exact hq
    · rw [if_neg g, if_neg g2, if_pos g3] at h; injection h with h; rw [h]; exact hq
    · rw [if_neg g, if_neg g2, if_neg g3, if_neg g4] at h
      obtain ⟨j, hj, rfl⟩ := nI_of g2
      have : j < 6 := by
        rcases Nat.lt_or_ge j 6 with q | q
        · exact q
        · exact absurd (nI_le q hj) g3
      refine ⟨vp_in_nI this (by omega), ?_⟩
      rintro y rfl z rfl
      exact okF_l hq n _ _ _ h
    · rw [if_neg g, if_neg g2, if_neg g3, if_pos g4] at h; injection h with h; rw [h]; exact hq
abbrev ofK (k a : Nat) : Prop := a = 0 ∨ a = k ∨ (a = 1 ∧ k < 4) ∨ (a = 4 ∧ k = 5)
theorem okF_v : ∀ k, k < 6 → 1 ≤ k → ∀ a, a < 6 → okF 7 (nI a) (nI k) (nI 0) = some (if ofK k a then nI 1 else nI 0) := by decide +kernel
theorem c_ofk {M : gh_M} {k a : Nat} (hk : k < 6) (hk1 : 1 ≤ k) (ha : a < 6) {Q : Int32 → gh_M → Prop} (hq : Q (if ofK k a then nI 1 else nI 0) M) : wp_X1_isOfKind (nI k) (nI a) M Q :=
  ⟨7, okF_l hq 7 _ _ _ (okF_v k hk hk1 a ha)⟩
theorem OK_su' {M M1 M2 : gh_M} {S : SS} (hC : CS M S) (hR : RS M S) {v : Int32} (e : M1 = gh_st M 0 0 9 v) (e2 : M2 = gh_st M1 32 0 13 v) : OKn M2 := by
  subst e2
  exact OK_su hC hR v e
theorem L_as {a0 a1 : Int32} {M : gh_M} {S : SS} (hC : CS M S) (hR : RS M S) : wp_X6_as a0 a1 M (fun r1 M1 => wp_X7_as a0 a1 M1 (fun r2 M2 => r1 = r2 ∧ OKn M2)) := by
  have hOK : OKn M := ⟨S, hC, hR⟩
  have hT := hC.2.2.2.2.2.2.1
  have hT2 := hR.2.2.2.2.2.1
  obtain ⟨e0, e1, e2, b0, b1, b2⟩ := hT.hd
  obtain ⟨f0, f1, f2⟩ := hT2.hd hT.ok
  unfold wp_X6_as wp_X7_as
  rcases ix a0 (ont S.2.2.2.2.1) (by omega) with ⟨u, hu, rfl⟩ | hb
  · refine c_isTy e1 hu (by omega) ?_
    simp only [z1, not_false_eq_true, t01, false_implies, true_and, and_true]
    rcases few a1 5 (by omega) with ⟨a, ha, rfl⟩ | ⟨hb, -⟩
    · refine w6y (nI_nlt (by omega) (by omega)) (nI_nlt ha (by omega)) ?_
      simp only [z1, not_false_eq_true, t01, false_implies, true_and, and_true]
      cases hX : S.2.2.2.2.1 with
      | none => rw [hX] at hu; exact absurd hu (Nat.not_lt_zero _)
      | some X =>
        rw [hX] at e0 e1 e2 f0 f1 f2 b0 b1 b2 hu
        have hu' : u < X.2.1.2.1 := hu
        have b1' : X.2.1.2.1 ≤ 5 := b1
        obtain ⟨hk, hz, h19⟩ := hC.trn hX
        have hd := hz.cd
        have hr := hR.trn hX
        obtain ⟨k, hk1, hk5, ek⟩ := hz.wf.1 u hu'
        refine ⟨vp_in_nI (by omega) (by omega), ?_⟩
        rw [nI_clamp (by omega), hd.k0 hu', ek]
        refine c_ofk (by omega) hk1 (by omega) ?_
        have fr : ∀ v M2, M2 = gh_st M 0 0 9 v → (∀ a b i, 32 ≤ a → M2 a b i = M a b i) := fun v M2 e a b i q => by rw [e, zb_k _ _ _ _ _ _ (by omega)]
        have ref : ∀ (v : Int32) (M2 : gh_M) (r1 : Int32), M2 = gh_st M 0 0 9 v → (ofK k a → v = nI 0 ∧ r1 = nI u) → (¬ ofK k a → v = nI 3 ∧ r1 = (-1000010 : Int32) - nI 3) → wp_X7_isTrick (nI u) M2 (fun r1_1 M2 => ((r1_1 = 0 → r1 = (-1000001 : Int32) ∧ OKn M2) ∧ (¬ r1_1 = 0 → wp_X7_in (nI a) (nI 0) (nI 5) M2 (fun r4 M5 => ((¬ r4 = 0 → wp_X7_kindAt (nI u) M5 (fun r7 M8 => ((nI a = 0 → wp_X7_well (nI u) M8 (fun r10 M11 => r1 = r10 ∧ OKn M11)) ∧ (¬ nI a = 0 → ((nI a = r7 → wp_X7_well (nI u) M8 (fun r13 M14 => r1 = r13 ∧ OKn M14)) ∧ (¬ nI a = r7 → ((¬ nI a = (nI 1) → ((¬ nI a = (nI 4) → wp_X7_found (nI 3) M8 (fun r17 M18 => r1 = r17 ∧ OKn M18)) ∧ (nI a = (nI 4) → ((¬ r7 = (nI 5) → wp_X7_found (nI 3) M8 (fun r20 M21 => r1 = r20 ∧ OKn M21)) ∧ (r7 = (nI 5) → wp_X7_well (nI u) M8 (fun r22 M23 => r1 = r22 ∧ OKn M23)))))) ∧ (nI a = (nI 1) → ((r7 < (nI 4) → wp_X7_well (nI u) M8 (fun r25 M26 => r1 = r25 ∧ OKn M26)) ∧ (¬ r7 < (nI 4) → ((¬ nI a = (nI 4) → wp_X7_found (nI 3) M8 (fun r28 M29 => r1 = r28 ∧ OKn M29)) ∧ (nI a = (nI 4) → ((¬ r7 = (nI 5) → wp_X7_found (nI 3) M8 (fun r31 M32 => r1 = r31 ∧ OKn M32)) ∧ (r7 = (nI 5) → wp_X7_well (nI u) M8 (fun r33 M34 => r1 = r33 ∧ OKn M34))))))))))))))) ∧ (r4 = 0 → r1 = (-1000001 : Int32) ∧ OKn M5)))))) := by
          intro v M2 r1 e hy hn
          have m2 := fr v M2 e
          refine r_isTy ((m2 33 0 1 (by omega)).trans f1) hu (by omega) ?_
          simp only [z1, not_false_eq_true, t01, false_implies, true_and, and_true]
          refine w7y (nI_nlt (by omega) (by omega)) (nI_nlt ha (by omega)) ?_
          simp only [z1, not_false_eq_true, t01, false_implies, true_and, and_true]
          unfold wp_X7_kindAt wp_X7_trickAt
          simp (disch := omega) only [nI_add, pk_mul, nI_clamp, zb_in, true_and]
          rw [m2 33 0 _ (by omega), hr.at0 (i := 4 + 5 * u) (by omega) (by omega), ek]
          have W : ofK k a → wp_X7_well (nI u) M2 (fun r10 M11 => r1 = r10 ∧ OKn M11) := by
            intro q M3 e3
            obtain ⟨rfl, h2⟩ := hy q
            exact ⟨h2, OK_su' hC hR e e3⟩
          have F : ¬ ofK k a → wp_X7_found (nI 3) M2 (fun r10 M11 => r1 = r10 ∧ OKn M11) := by
            intro q M3 e3
            obtain ⟨rfl, h2⟩ := hn q
            exact ⟨h2, OK_su' hC hR e e3⟩
          have za : (nI a = 0) ↔ a = 0 := nI_eq (b := 0) (by omega) (by omega)
          have zk : (nI a = nI k) ↔ a = k := nI_eq (by omega) (by omega)
          have z1 : (nI a = nI 1) ↔ a = 1 := nI_eq (by omega) (by omega)
          have z4 : (nI a = nI 4) ↔ a = 4 := nI_eq (by omega) (by omega)
          have z5 : (nI k = nI 5) ↔ k = 5 := nI_eq (by omega) (by omega)
          have zl : (nI k < nI 4) ↔ k < 4 := by
            refine ⟨fun h => ?_, fun h => nI_lt h (by omega)⟩
            rcases Nat.lt_or_ge k 4 with q | q
            · exact q
            · exact absurd h (nI_nlt q (by omega))
          rw [za, zk, z1, z4, z5, zl]
          unfold ofK at W F
          refine ⟨fun h => W (by omega), fun h => ⟨fun h2 => W (by omega), fun h2 => ⟨fun h3 => ⟨fun h4 => F (by omega), fun h4 => ⟨fun h5 => F (by omega), fun h5 => W (by omega)⟩⟩, fun h3 => ⟨fun h4 => W (by omega), fun h4 => ⟨fun h5 => F (by omega), fun h5 => ⟨fun h6 => F (by omega), fun h6 => W (by omega)⟩⟩⟩⟩⟩⟩
        by_cases q : ofK k a
        · rw [if_pos q]
          simp only [z1, not_false_eq_true, t01, false_implies, true_and, and_true]
          unfold wp_X6_fine
          intro M2 e
          exact ref (nI 0) M2 (nI u) e (fun _ => ⟨rfl, rfl⟩) (fun z => absurd q z)
        · rw [if_neg q]
          simp only [z0, not_true_eq_false, t01, false_implies, true_and, and_true]
          unfold wp_X6_found
          intro M2 e
          exact ref (nI 3) M2 _ e (fun z => absurd z q) (fun _ => ⟨rfl, rfl⟩)
    · refine w6n hb ?_
      simp only [z0, not_true_eq_false, t01, false_implies, true_and, and_true]
      refine r_isTy f1 hu (by omega) ?_
      simp only [z1, not_false_eq_true, t01, false_implies, true_and, and_true]
      refine w7n hb ?_
      simp only [z0, not_true_eq_false, t01, false_implies, true_and, and_true]
      exact hOK
  · refine c_isTn e1 hb ?_
    simp only [z0, not_true_eq_false, t01, false_implies, true_and, and_true]
    refine r_isTn f1 hb ?_
    simp only [z0, not_true_eq_false, t01, false_implies, true_and, and_true]
    exact hOK
-- ASK: bodies that begin, in order
def cA (M0 M : gh_M) (l : List Int32) : Prop := l.length ≤ 16 ∧ M 30 0 1 = nI l.length ∧ (∀ i, i < l.length → M 31 0 i = l.getD i 0) ∧ ∀ a b, a ≠ 30 → a ≠ 31 → M a b = M0 a b
def rA (M0 M : gh_M) (l : List Int32) : Prop := l.length ≤ 16 ∧ M 32 0 15 = nI l.length ∧ (∀ i, i < l.length → M 41 0 i = l.getD i 0) ∧ ∀ a b i, ¬ (a = 32 ∧ b = 0 ∧ i = 15) → a ≠ 41 → M a b i = M0 a b i
theorem gD_app (l : List Int32) (x : Int32) : ∀ i, i < l.length + 1 → (l ++ [x]).getD i 0 = if i = l.length then x else l.getD i 0 := by
  intro i hi
  by_cases q : i = l.length
  · subst q; simp [List.getD_eq_getElem?_getD]
  · rw [if_neg q]
    have : i < l.length := by omega
    simp [List.getD_eq_getElem?_getD, List.getElem?_append_left this]
theorem c_beg {M0 M : gh_M} {l : List Int32} {x : Int32} (h : cA M0 M l) (hl : l.length < 16) {Q : gh_M → Prop} (hQ : ∀ M', cA M0 M' (l ++ [x]) → Q M') : wp_X1_begins x M Q := by
  obtain ⟨h1, h2, h3, h4⟩ := h
  unfold wp_X1_begins
  rw [h2, nI_clamp (by omega)]
  refine ⟨fun z => absurd z (nI_ge hl (by omega)), fun _ => ⟨vp_in_nI hl (by omega), ?_⟩⟩
  rintro M3 e3 M4 e4
  refine hQ M4 ⟨by rw [List.length_append]; simp; omega, ?_, fun i hi => ?_, fun a b q1 q2 => ?_⟩
  · rw [e4, zb_s, e3, zb_k _ _ _ _ _ _ (by omega), h2, nI_add, List.length_append]; rfl
  · rw [List.length_append] at hi
    have hi' : i < l.length + 1 := hi
    rw [gD_app l x i hi', e4, zb_k _ _ _ _ _ _ (by omega), e3]
    by_cases q : i = l.length
    · rw [if_pos q, q, zb_s]
    · rw [if_neg q, zb_j _ _ _ _ q]; exact h3 i (by omega)
  · rw [e4, zb_kr _ _ _ _ _ q1, e3, zb_kr _ _ _ _ _ q2]; exact h4 a b q1 q2
theorem r_beg2 {M0 M : gh_M} {l : List Int32} {x : Int32} (h : rA M0 M l) (hl : l.length < 16) {Q : gh_M → Prop} (hQ : ∀ M', rA M0 M' (l ++ [x]) → Q M') : wp_X7_begins x M Q := by
  obtain ⟨h1, h2, h3, h4⟩ := h
  unfold wp_X7_begins
  rw [h2, nI_clamp (by omega)]
  refine ⟨fun z => absurd z (nI_ge hl (by omega)), fun _ => ⟨vp_in_nI hl (by omega), ?_⟩⟩
  rintro M3 e3 M4 e4
  refine hQ M4 ⟨by rw [List.length_append]; simp; omega, ?_, fun i hi => ?_, fun a b i q1 q2 => ?_⟩
  · rw [e4, zb_s, e3, zb_k _ _ _ _ _ _ (by omega), h2, nI_add, List.length_append]; rfl
  · rw [List.length_append] at hi
    have hi' : i < l.length + 1 := hi
    rw [gD_app l x i hi', e4, zb_k _ _ _ _ _ _ (by omega), e3]
    by_cases q : i = l.length
    · rw [if_pos q, q, zb_s]
    · rw [if_neg q, zb_j _ _ _ _ q]; exact h3 i (by omega)
  · rw [e4, zb_st, if_neg q1, e3, zb_k _ _ _ _ _ _ q2]; exact h4 a b i q1 q2
