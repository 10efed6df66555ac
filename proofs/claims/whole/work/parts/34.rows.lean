-- ROWS
theorem CS.rows {M M' : gh_M} {S : SS} {R' : SR} (h : CS M S) (hr : cRow M' R') (e : ∀ a b, a ≠ 2 → a ≠ 3 → M' a b = M a b) : CS M' (R', S.2) := by
  obtain ⟨h0, h1, h2, h3, h4, h5, h6, h7, h8, h9⟩ := h
  refine ⟨fun t ht => ?_, hr, ?_, ?_, ?_, ?_, h6.mv (fun a q1 q2 => e a 0 (by omega) (by omega)), h7.mv (fun a t q1 q2 q3 q4 => e a t (by omega) (by omega)) (e 21 0 (by omega) (by omega)), h8.mv (fun a t q1 q2 q3 q4 => e a t (by omega) (by omega)), h9.mv ?_ ?_ ?_⟩
  · have := h0 t ht
    unfold bo at this ⊢
    rw [e 10 t (by omega) (by omega), e 18 t (by omega) (by omega)]
    exact this
  · unfold cTap at h2 ⊢
    rw [e 4 0 (by omega) (by omega), e 5 0 (by omega) (by omega)]
    exact h2
  · rw [e 0 0 (by omega) (by omega)]; exact h3
  · rw [e 0 0 (by omega) (by omega)]; exact h4
  · unfold cTrc at h5 ⊢
    rw [e 30 0 (by omega) (by omega), e 31 0 (by omega) (by omega)]
    exact h5
  · rw [e 24 0 (by omega) (by omega)]
  · rw [e 24 0 (by omega) (by omega)]
  · rw [e 26 0 (by omega) (by omega)]
theorem RS.rows {M M' : gh_M} {S : SS} {R' : SR} (h : RS M S) (hr : rRow M' R') (e : ∀ a b i, a ≠ 38 → a ≠ 39 → a ≠ 40 → M' a b i = M a b i) : RS M' (R', S.2) := by
  obtain ⟨h1, h2, h3, h4, h5, h6, h7, h8⟩ := h
  have er : ∀ x T, rr M x T → rr M' x T := fun x T g i hi => (e 33 0 (x + i) (by omega) (by omega) (by omega)).trans (g i hi)
  have e32 : ∀ i, M' 32 0 i = M 32 0 i := fun i => e 32 0 i (by omega) (by omega) (by omega)
  refine ⟨hr, ⟨by rw [e32]; exact h2.1, fun i hi => ?_⟩, by rw [e32]; exact h3, by rw [e32]; exact h4, ⟨by rw [e32]; exact h5.1, fun i hi => ?_⟩, ?_, ⟨by rw [e32]; exact h7.1, fun i hi => er _ _ (h7.2 i hi)⟩, ⟨by rw [e32]; exact h8.1, fun k hk X hX => er _ _ (h8.2 k hk X hX)⟩⟩
  · rw [e 37 0 i (by omega) (by omega) (by omega)]; exact h2.2 i hi
  · rw [e 41 0 i (by omega) (by omega) (by omega)]; exact h5.2 i hi
  · unfold rTrn at h6 ⊢
    show match S.2.2.2.2.1 with
      | none => M' 33 0 0 = nI 0 ∧ M' 33 0 1 = nI 0 ∧ M' 33 0 2 = nI 0 ∧ M' 33 0 3 = nI 0
      | some X => rr M' 0 X.1
    cases q : S.2.2.2.2.1 with
    | none =>
      rw [q] at h6
      have e33 : ∀ i, M' 33 0 i = M 33 0 i := fun i => e 33 0 i (by omega) (by omega) (by omega)
      simp only [e33]
      exact h6
    | some X => rw [q] at h6; exact er _ _ h6
theorem OK_rows {M M1 M2 M3 : gh_M} {S : SS} {R' : SR} {v : Int32} (hC : CS M S) (hR : RS M S) (h1 : cRow M1 R') (f1 : ∀ a b, a ≠ 2 → a ≠ 3 → M1 a b = M a b) (e2 : M2 = gh_st M1 0 0 9 v) (h3 : rRow M3 R') (f3 : ∀ a b i, a ≠ 38 → a ≠ 39 → a ≠ 40 → M3 a b i = M2 a b i) : OKn (gh_st M3 32 0 13 v) := by
  subst e2
  have hC1 := (hC.rows h1 f1).st09 v
  have g3 : fC (gh_st M1 0 0 9 v) (gh_st M3 32 0 13 v) := fC.st (fun a b q => funext fun i => f3 a b i (by omega) (by omega) (by omega)) (by omega)
  have g4 : fR M (gh_st M1 0 0 9 v) := fR.st (fun a b q => f1 a b (by omega) (by omega)) (by omega)
  have hR1 := ((hR.fR g4 hC.n24).rows h3 f3).st13 v
  exact ⟨_, hC1.fC g3, hR1⟩
section H
variable {a n : Int32} {M : gh_M} {Q : Int32 → gh_M → Prop} {m t i k r : Nat}
theorem c_hy (hm : M 2 t 2 = nI m) (h : i + k ≤ m) (hmm : m ≤ 40) (hq : Q (nI 1) M) : wp_X3_holds t (nI i) (nI k) M Q := by
  unfold wp_X3_holds
  rw [hm, pk_sub (by omega)]
  exact ⟨fun g => absurd g (nI_pos (by omega)), fun _ => ⟨fun g => absurd g (nI_pos (by omega)), fun _ => ⟨fun g => absurd g (nI_nlt (by omega) (by omega)), fun _ => ⟨fun g => absurd g (nI_nlt (by omega) (by omega)), fun _ => hq⟩⟩⟩⟩
theorem c_hn (hm : M 2 t 2 = nI m) (h : ¬ ∃ i k, a = nI i ∧ n = nI k ∧ i + k ≤ m) (hmm : m ≤ 40) (hq : Q (nI 0) M) : wp_X3_holds t a n M Q := by
  unfold wp_X3_holds
  rw [hm]
  refine ⟨fun _ => hq, fun g1 => ⟨fun _ => hq, fun g2 => ⟨fun _ => hq, fun g3 => ⟨fun _ => hq, fun g4 => ?_⟩⟩⟩⟩
  obtain ⟨i, hi, rfl⟩ := nI_of g1
  obtain ⟨k, hk, rfl⟩ := nI_of g2
  have hi2 : i ≤ m := (nI_leI hi (by omega)).mp (Int32.not_lt.mp g3)
  rw [pk_sub hi2] at g4
  have := (nI_leI hk (by omega)).mp (Int32.not_lt.mp g4)
  exact absurd ⟨i, k, rfl, rfl, by omega⟩ h
theorem r_py (hr : r < 8) (hm : M 40 0 r = nI m) (h : i + k ≤ m) (hmm : m ≤ 40) (hq : Q (nI 1) M) : wp_X7_isPart (nI r) (nI i) (nI k) M Q := by
  unfold wp_X7_isPart
  simp (disch := omega) only [nI_clamp, zb_in, true_and, hm, pk_sub]
  exact ⟨fun g => absurd g (nI_pos (by omega)), fun _ => ⟨fun g => absurd g (nI_pos (by omega)), fun _ => ⟨fun g => absurd g (nI_nlt (by omega) (by omega)), fun _ => ⟨fun g => absurd g (nI_nlt (by omega) (by omega)), fun _ => hq⟩⟩⟩⟩
theorem r_pn (hr : r < 8) (hm : M 40 0 r = nI m) (h : ¬ ∃ i k, a = nI i ∧ n = nI k ∧ i + k ≤ m) (hmm : m ≤ 40) (hq : Q (nI 0) M) : wp_X7_isPart (nI r) a n M Q := by
  unfold wp_X7_isPart
  simp (disch := omega) only [nI_clamp, zb_in, true_and, hm]
  refine ⟨fun _ => hq, fun g1 => ⟨fun _ => hq, fun g2 => ⟨fun _ => hq, fun g3 => ⟨fun _ => hq, fun g4 => ?_⟩⟩⟩⟩
  obtain ⟨i, hi, rfl⟩ := nI_of g1
  obtain ⟨k, hk, rfl⟩ := nI_of g2
  have hk2 : k ≤ 40 := (nI_leI hk (by omega)).mp (Int32.not_lt.mp g3)
  refine absurd ⟨i, k, rfl, rfl, ?_⟩ h
  by_cases q : k ≤ m
  · rw [pk_sub q] at g4
    have := (nI_leI hi (by omega)).mp (Int32.not_lt.mp g4)
    omega
  · exfalso
    refine g4 (Int32.lt_of_lt_of_le (pk_sneg (by omega) (by omega)) (nI_pos' hi))
theorem c_rowy (hr : r < 8) (hq : Q (nI 1) M) : wp_X6_isRow (nI r) M Q := w6y (nI_nlt (by omega) (by omega)) (nI_nlt (by omega) (by omega)) ⟨and01.2, hq⟩
theorem c_rown (h : a < nI 0 ∨ nI 7 < a) (hq : Q (nI 0) M) : wp_X6_isRow a M Q := w6n h ⟨and01.1, hq⟩
theorem r_rowy (hr : r < 8) (hq : Q (nI 1) M) : wp_X7_isRow (nI r) M Q := w7y (nI_nlt (by omega) (by omega)) (nI_nlt (by omega) (by omega)) ⟨and01.2, hq⟩
theorem r_rown (h : a < nI 0 ∨ nI 7 < a) (hq : Q (nI 0) M) : wp_X7_isRow a M Q := w7n h ⟨and01.1, hq⟩
end H
theorem c_fill_l {M0 : gh_M} {t : Nat} {Q : gh_M → Prop} (hQ : ∀ M', (∀ i, i < 40 → M' 3 t i = nI 0) → (∀ a b i, ¬ (a = 3 ∧ b = t) → M' a b i = M0 a b i) → Q M') :
    ∀ (r k : Nat) (M : gh_M), k + r = 40 → (∀ i, i < k → M 3 t i = nI 0) → (∀ a b i, ¬ (a = 3 ∧ b = t) → M a b i = M0 a b i) → wl_J7_fill_53178_k3_5 t Q (r + 1) (nI 0) (nI k) (nI 40) M := by
  intro r
  induction r with
  | zero =>
    intro k M hk h1 h2
    have e : k = 40 := by omega
    subst e
    unfold wl_J7_fill_53178_k3_5
    exact ⟨fun _ => hQ M h1 h2, fun h => absurd (Int32.le_refl _) h⟩
  | succ r ih =>
    intro k M hk h1 h2
    unfold wl_J7_fill_53178_k3_5
    simp (disch := omega) only [nI_add, nI_clamp, zb_in, true_and]
    refine ⟨fun h => absurd h (nI_ge (by omega) (by omega)), fun _ => ?_⟩
    rintro _ rfl _ rfl
    refine ih (k + 1) _ (by omega) (fun i hi => ?_) (fun a b i h => ?_)
    · rw [zb_st]
      by_cases e : i = k
      · rw [if_pos ⟨rfl, rfl, e⟩]
      · rw [if_neg (by omega)]; exact h1 i (by omega)
    · rw [zb_st, if_neg (by omega)]; exact h2 a b i h
theorem r_fill_l {M0 : gh_M} {x n : Nat} (hx : x < 8) (hn : n ≤ 40) {Q : Int32 → gh_M → Prop} (hQ : ∀ M', (∀ i, i < n → M' 38 0 (40 * x + i) = nI 0) → (∀ a b i, ¬ (a = 38 ∧ b = 0 ∧ 40 * x ≤ i ∧ i < 40 * x + n) → M' a b i = M0 a b i) → Q (nI n) (gh_st M' 32 0 13 (nI 0))) :
    ∀ (r k : Nat) (M : gh_M), k + r = n → (∀ i, i < k → M 38 0 (40 * x + i) = nI 0) → (∀ a b i, ¬ (a = 38 ∧ b = 0 ∧ 40 * x ≤ i ∧ i < 40 * x + k) → M a b i = M0 a b i) → wl_X7_row_52 Q (r + 1) (nI x) (nI n) (nI k) M := by
  intro r
  induction r with
  | zero =>
    intro k M hk h1 h2
    have e : k = n := by omega
    subst e
    unfold wl_X7_row_52
    refine ⟨fun _ => ?_, fun h => absurd (Int32.le_refl _) h⟩
    rintro _ rfl
    exact hQ M h1 h2
  | succ r ih =>
    intro k M hk h1 h2
    unfold wl_X7_row_52
    simp (disch := omega) only [nI_add, pk_mul, nI_clamp, zb_in, true_and]
    refine ⟨fun h => absurd h (nI_ge (by omega) (by omega)), fun _ => ?_⟩
    rintro _ rfl _ rfl
    refine ih (k + 1) _ (by omega) (fun i hi => ?_) (fun a b i h => ?_)
    · rw [zb_st]
      by_cases e : i = k
      · rw [if_pos ⟨rfl, rfl, by omega⟩]
      · rw [if_neg (by omega)]; exact h1 i (by omega)
    · rw [zb_st, if_neg (by omega)]; exact h2 a b i (by omega)
theorem L_row {a0 a1 a2 : Int32} {M : gh_M} {S : SS} (hC : CS M S) (hR : RS M S) : wp_X6_row a0 a1 a2 M (fun r1 M1 => wp_X7_row a0 a1 a2 M1 (fun r2 M2 => r1 = r2 ∧ OKn M2)) := by
  have hOK : OKn M := ⟨S, hC, hR⟩
  unfold wp_X6_row wp_X7_row
  rcases few a0 7 (by omega) with ⟨r, hr, rfl⟩ | ⟨hb, -⟩
  · refine c_rowy (by omega) ?_
    simp only [z1, not_false_eq_true, t01, false_implies, true_and, and_true]
    rcases few a1 2 (by omega) with ⟨l, hl, rfl⟩ | ⟨hb, -⟩
    · refine w6y (nI_nlt (by omega) (by omega)) (nI_nlt (by omega) (by omega)) ?_
      simp only [z1, not_false_eq_true, t01, false_implies, true_and, and_true]
      refine ⟨fun g => ⟨fun g0 => ?_, fun g0 => ?_⟩, fun g => ?_⟩
      · obtain ⟨n, hn, rfl⟩ := zb_le g0 g (by omega)
        simp (disch := omega) only [nI_clamp, zb_in, true_and]
        rintro j hj rfl
        unfold wp_X3_begin
        rintro _ rfl _ rfl _ rfl
        refine ⟨41, c_fill_l (fun M3 h3 g3 => ?_) 40 0 _ (by omega) (fun i hi => by omega) (fun _ _ _ _ => rfl)⟩
        unfold wp_X6_fine
        rintro M4 e4
        refine r_rowy (by omega) ?_
        simp only [z1, not_false_eq_true, t01, false_implies, true_and, and_true]
        refine w7y (nI_nlt (by omega) (by omega)) (nI_nlt (by omega) (by omega)) ?_
        simp only [z1, not_false_eq_true, t01, false_implies, true_and, and_true]
        refine ⟨fun _ => ⟨fun _ => ?_, fun z => absurd g0 z⟩, fun z => absurd g z⟩
        rintro _ rfl _ rfl
        refine ⟨n + 1, r_fill_l (by omega) hn (fun M5 h5 g5 => ⟨rfl, ?_⟩) n 0 _ (by omega) (fun i hi => by omega) (fun _ _ _ _ => rfl)⟩
        have c1 := hC.2.1
        have r1 := hR.1
        have g3' : ∀ a b, a ≠ 2 → a ≠ 3 → M3 a b = M a b := fun a b q1 q2 => funext fun i => by rw [g3 a b i (by omega), zb_k _ _ _ _ _ _ q1, zb_k _ _ _ _ _ _ q1, zb_k _ _ _ _ _ _ q1]
        refine OK_rows (M1 := M3) (R' := (fun q => if q = r then some n else S.1.1 q, fun q => if q = r then nI l else S.1.2.1 q, fun q => if q = r then fun _ => nI 0 else S.1.2.2 q)) hC hR (fun q hq => ?_) g3' e4 (fun q hq => ?_) (fun a b i q1 q2 q3 => ?_)
        · by_cases e : q = r
          · subst e
            simp only [if_true]
            refine ⟨?_, ?_, hn, ?_, ?_, fun i hi => h3 i (by omega)⟩
            · rw [g3 2 q 0 (by omega), zb_j _ _ _ _ (by omega), zb_j _ _ _ _ (by omega), zb_s]; rfl
            · rw [g3 2 q 2 (by omega), zb_s]
            · rw [g3 2 q 1 (by omega), zb_j _ _ _ _ (by omega), zb_s]
            · have : l = 0 ∨ l = 1 ∨ l = 2 := by omega
              rcases this with rfl | rfl | rfl
              · exact Or.inl rfl
              · exact Or.inr (Or.inl rfl)
              · exact Or.inr (Or.inr rfl)
          · have := c1 q hq
            simp only [if_neg e]
            cases h9 : S.1.1 q with
            | none =>
              rw [h9] at this
              show M3 2 q 0 = 0
              rw [g3 2 q 0 (by omega), zb_t _ _ _ _ _ _ e, zb_t _ _ _ _ _ _ e, zb_t _ _ _ _ _ _ e]
              exact this
            | some k =>
              rw [h9] at this
              obtain ⟨p1, p2, p3, p4, p5, p6⟩ := this
              refine ⟨?_, ?_, p3, ?_, p5, fun i hi => ?_⟩
              · rw [g3 2 q 0 (by omega), zb_t _ _ _ _ _ _ e, zb_t _ _ _ _ _ _ e, zb_t _ _ _ _ _ _ e]; exact p1
              · rw [g3 2 q 2 (by omega), zb_t _ _ _ _ _ _ e, zb_t _ _ _ _ _ _ e, zb_t _ _ _ _ _ _ e]; exact p2
              · rw [g3 2 q 1 (by omega), zb_t _ _ _ _ _ _ e, zb_t _ _ _ _ _ _ e, zb_t _ _ _ _ _ _ e]; exact p4
              · rw [g3 3 q i (by omega), zb_k _ _ _ _ _ _ (by omega), zb_k _ _ _ _ _ _ (by omega), zb_k _ _ _ _ _ _ (by omega)]; exact p6 i hi
        · have m4 : ∀ a b i, 32 ≤ a → M4 a b i = M a b i := fun a b i q => by rw [e4, zb_k _ _ _ _ _ _ (by omega), g3' a b (by omega) (by omega)]
          by_cases e : q = r
          · subst e
            simp only [if_true]
            refine ⟨?_, ?_, fun i hi => h5 i (by omega)⟩
            · rw [g5 40 0 q (by omega), zb_k _ _ _ _ _ _ (by omega), zb_s]
            · rw [g5 39 0 q (by omega), zb_s]
          · have := r1 q hq
            simp only [if_neg e]
            cases h9 : S.1.1 q with
            | none =>
              rw [h9] at this
              show M5 40 0 q = -1
              rw [g5 40 0 q (by omega), zb_k _ _ _ _ _ _ (by omega), zb_j _ _ _ _ e, m4 40 0 q (by omega)]
              exact this
            | some k =>
              have hk := c1.le q k h9 hq
              rw [h9] at this
              obtain ⟨p1, p2, p3⟩ := this
              refine ⟨?_, ?_, fun i hi => ?_⟩
              · rw [g5 40 0 q (by omega), zb_k _ _ _ _ _ _ (by omega), zb_j _ _ _ _ e, m4 40 0 q (by omega)]; exact p1
              · rw [g5 39 0 q (by omega), zb_j _ _ _ _ e, zb_k _ _ _ _ _ _ (by omega), m4 39 0 q (by omega)]; exact p2
              · rw [g5 38 0 _ (by omega), zb_k _ _ _ _ _ _ (by omega), zb_k _ _ _ _ _ _ (by omega), m4 38 0 _ (by omega)]; exact p3 i hi
        · rw [g5 a b i (by omega), zb_k _ _ _ _ _ _ q2, zb_k _ _ _ _ _ _ q3]
      · unfold wp_X6_found
        rintro M4 e4
        refine r_rowy (by omega) ?_
        simp only [z1, not_false_eq_true, t01, false_implies, true_and, and_true]
        refine w7y (nI_nlt (by omega) (by omega)) (nI_nlt (by omega) (by omega)) ?_
        simp only [z1, not_false_eq_true, t01, false_implies, true_and, and_true]
        refine ⟨fun _ => ⟨fun z => absurd z g0, fun _ => ?_⟩, fun z => absurd g z⟩
        unfold wp_X7_found
        rintro _ rfl
        exact ⟨rfl, OK_su hC hR _ e4⟩
      · refine r_rowy (by omega) ?_
        simp only [z1, not_false_eq_true, t01, false_implies, true_and, and_true]
        refine w7y (nI_nlt (by omega) (by omega)) (nI_nlt (by omega) (by omega)) ?_
        simp only [z1, not_false_eq_true, t01, false_implies, true_and, and_true]
        exact ⟨fun z => absurd z g, fun _ => hOK⟩
    · refine w6n hb ?_
      simp only [z0, not_true_eq_false, t01, false_implies, true_and, and_true]
      refine r_rowy (by omega) ?_
      simp only [z1, not_false_eq_true, t01, false_implies, true_and, and_true]
      refine w7n hb ?_
      simp only [z0, not_true_eq_false, t01, false_implies, true_and, and_true]
      exact hOK
  · refine c_rown hb ?_
    simp only [z0, not_true_eq_false, t01, false_implies, true_and, and_true]
    refine r_rown hb ?_
    simp only [z0, not_true_eq_false, t01, false_implies, true_and, and_true]
    exact hOK
theorem L_drop {a0 : Int32} {M : gh_M} {S : SS} (hC : CS M S) (hR : RS M S) : wp_X6_drop a0 M (fun r1 M1 => wp_X7_drop a0 M1 (fun r2 M2 => r1 = r2 ∧ OKn M2)) := by
  have hOK : OKn M := ⟨S, hC, hR⟩
  unfold wp_X6_drop wp_X7_drop
  rcases few a0 7 (by omega) with ⟨r, hr, rfl⟩ | ⟨hb, -⟩
  · refine c_rowy (by omega) ?_
    simp only [z1, not_false_eq_true, t01, false_implies, true_and, and_true]
    simp (disch := omega) only [nI_clamp, zb_in, true_and]
    rintro j hj rfl
    have c1 := hC.2.1
    have r1 := hR.1
    have hc := c1 r (by omega)
    have hr1 := r1 r (by omega)
    cases h9 : S.1.1 r with
    | none =>
      rw [h9] at hc hr1
      have hc : M 2 r 0 = 0 := hc
      have hr1 : M 40 0 r = -1 := hr1
      refine ⟨fun z => absurd hc z, fun _ => ?_⟩
      unfold wp_X6_found
      rintro M4 e4
      refine r_rowy (by omega) ?_
      simp only [z1, not_false_eq_true, t01, false_implies, true_and, and_true]
      have m4 : M4 40 0 r = -1 := by rw [e4, zb_k _ _ _ _ _ _ (by omega)]; exact hr1
      rw [m4]
      refine ⟨fun z => absurd z (by decide), fun _ => ?_⟩
      unfold wp_X7_found
      rintro _ rfl
      exact ⟨rfl, OK_su hC hR _ e4⟩
    | some n =>
      have hn := c1.le r n h9 (by omega)
      rw [h9] at hc hr1
      obtain ⟨p1, p2, p3, p4, p5, p6⟩ := hc
      obtain ⟨s1, s2, s3⟩ := hr1
      refine ⟨fun _ => ?_, fun z => absurd z (by rw [p1]; decide)⟩
      rintro j hj rfl _ rfl j hj rfl
      unfold wp_X6_fine
      rintro M4 e4
      refine r_rowy (by omega) ?_
      simp only [z1, not_false_eq_true, t01, false_implies, true_and, and_true]
      have m4 : ∀ a b i, 32 ≤ a → M4 a b i = M a b i := fun a b i q => by rw [e4, zb_k _ _ _ _ _ _ (by omega), zb_k _ _ _ _ _ _ (by omega)]
      rw [m4 40 0 r (by omega), s1]
      refine ⟨fun _ => ?_, fun z => absurd (nI_pos' (by omega)) z⟩
      rintro _ rfl _ rfl _ rfl
      refine ⟨by rw [zb_j _ _ _ _ (by omega), p2], ?_⟩
      refine OK_rows (M1 := gh_st M 2 r 0 (nI 0)) (R' := (fun q => if q = r then none else S.1.1 q, S.1.2)) hC hR (fun q hq => ?_) (fun a b q1 q2 => zb_kr _ _ _ _ _ q1) e4 (fun q hq => ?_) (fun a b i q1 q2 q3 => zb_k _ _ _ _ _ _ q3)
      · by_cases e : q = r
        · subst e
          simp only [if_true]
          exact zb_s _ _ _ _ _
        · have := c1 q hq
          simp only [if_neg e]
          cases h8 : S.1.1 q with
          | none => rw [h8] at this; show gh_st M 2 r 0 (nI 0) 2 q 0 = 0; rw [zb_t _ _ _ _ _ _ e]; exact this
          | some k =>
            rw [h8] at this
            obtain ⟨u1, u2, u3, u4, u5, u6⟩ := this
            exact ⟨by rw [zb_t _ _ _ _ _ _ e]; exact u1, by rw [zb_t _ _ _ _ _ _ e]; exact u2, u3, by rw [zb_t _ _ _ _ _ _ e]; exact u4, u5, fun i hi => by rw [zb_k _ _ _ _ _ _ (by omega)]; exact u6 i hi⟩
      · by_cases e : q = r
        · subst e
          simp only [if_true]
          exact zb_s _ _ _ _ _
        · have := r1 q hq
          simp only [if_neg e]
          cases h8 : S.1.1 q with
          | none => rw [h8] at this; show gh_st M4 40 0 r (-1) 40 0 q = -1; rw [zb_j _ _ _ _ e, m4 40 0 q (by omega)]; exact this
          | some k =>
            rw [h8] at this
            obtain ⟨u1, u2, u3⟩ := this
            exact ⟨by rw [zb_j _ _ _ _ e, m4 40 0 q (by omega)]; exact u1, by rw [zb_k _ _ _ _ _ _ (by omega), m4 39 0 q (by omega)]; exact u2, fun i hi => by rw [zb_k _ _ _ _ _ _ (by omega), m4 38 0 _ (by omega)]; exact u3 i hi⟩
  · refine c_rown hb ?_
    simp only [z0, not_true_eq_false, t01, false_implies, true_and, and_true]
    refine r_rown hb ?_
    simp only [z0, not_true_eq_false, t01, false_implies, true_and, and_true]
    exact hOK
