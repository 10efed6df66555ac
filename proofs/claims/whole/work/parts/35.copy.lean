-- SET, COPY
def cutv (l v : Int32) : Int32 := if l = 0 then v.toInt8.toInt32 else if l = nI 1 then v.toInt16.toInt32 else v
theorem c_cut {M : gh_M} {t : Nat} {v : Int32} {Q : Int32 → gh_M → Prop} (hq : Q (cutv (M 2 t 1) v) M) : wp_X3_cut t v M Q := by
  unfold wp_X3_cut
  unfold cutv at hq
  refine ⟨fun h => ⟨fun h' => ?_, fun h' => ?_⟩, fun h => ?_⟩
  · rw [if_neg h, if_neg h'] at hq; exact hq
  · rw [if_neg h, if_pos h'] at hq; exact hq
  · rw [if_pos h] at hq; exact hq
/-- an item of a row becomes another, in both -/
theorem OK_item {M M2 M3 : gh_M} {S : SS} {r i n : Nat} {v : Int32} (hC : CS M S) (hR : RS M S) (hr : r < 8) (h9 : S.1.1 r = some n) (hi : i < n) (e2 : M2 = gh_st (gh_st M 3 r i v) 0 0 9 (nI 0)) (e3 : M3 = gh_st M2 38 0 (40 * r + i) v) : OKn (gh_st M3 32 0 13 (nI 0)) := by
  have c1 := hC.2.1
  have r1 := hR.1
  have hn := c1.le r n h9 hr
  subst e3
  refine OK_rows (M1 := gh_st M 3 r i v) (R' := (S.1.1, S.1.2.1, fun q => if q = r then upd (S.1.2.2 r) i v else S.1.2.2 q)) hC hR (fun q hq => ?_) (fun a b q1 q2 => zb_kr _ _ _ _ _ q2) e2 (fun q hq => ?_) (fun a b j q1 q2 q3 => zb_k _ _ _ _ _ _ q1)
  · have := c1 q hq
    show match S.1.1 q with
      | none => gh_st M 3 r i v 2 q 0 = 0
      | some n => _
    cases h8 : S.1.1 q with
    | none => rw [h8] at this; show gh_st M 3 r i v 2 q 0 = 0; rw [zb_k _ _ _ _ _ _ (by omega)]; exact this
    | some k =>
      rw [h8] at this
      obtain ⟨u1, u2, u3, u4, u5, u6⟩ := this
      refine ⟨by rw [zb_k _ _ _ _ _ _ (by omega)]; exact u1, by rw [zb_k _ _ _ _ _ _ (by omega)]; exact u2, u3, by rw [zb_k _ _ _ _ _ _ (by omega)]; exact u4, u5, fun j hj => ?_⟩
      show gh_st M 3 r i v 3 q j = (if q = r then upd (S.1.2.2 r) i v else S.1.2.2 q) j
      by_cases e : q = r
      · subst e
        rw [if_pos rfl, zb_upd]
        by_cases g : j = i
        · subst g; rw [zb_s, if_pos rfl]
        · rw [zb_j _ _ _ _ g, if_neg g]; exact u6 j hj
      · rw [if_neg e, zb_t _ _ _ _ _ _ e]; exact u6 j hj
  · have m2 : ∀ a b j, 32 ≤ a → M2 a b j = M a b j := fun a b j q => by rw [e2, zb_k _ _ _ _ _ _ (by omega), zb_k _ _ _ _ _ _ (by omega)]
    have := r1 q hq
    show match S.1.1 q with
      | none => gh_st M2 38 0 (40 * r + i) v 40 0 q = -1
      | some n => _
    cases h8 : S.1.1 q with
    | none => rw [h8] at this; show gh_st M2 38 0 (40 * r + i) v 40 0 q = -1; rw [zb_k _ _ _ _ _ _ (by omega), m2 40 0 q (by omega)]; exact this
    | some k =>
      have hk := c1.le q k h8 hq
      rw [h8] at this
      obtain ⟨u1, u2, u3⟩ := this
      refine ⟨by rw [zb_k _ _ _ _ _ _ (by omega), m2 40 0 q (by omega)]; exact u1, by rw [zb_k _ _ _ _ _ _ (by omega), m2 39 0 q (by omega)]; exact u2, fun j hj => ?_⟩
      show gh_st M2 38 0 (40 * r + i) v 38 0 (40 * q + j) = (if q = r then upd (S.1.2.2 r) i v else S.1.2.2 q) j
      by_cases e : q = r
      · subst e
        rw [if_pos rfl, zb_upd]
        by_cases g : j = i
        · subst g; rw [zb_s, if_pos rfl]
        · rw [zb_j _ _ _ _ (by omega), if_neg g, m2 38 0 _ (by omega)]; exact u3 j hj
      · rw [if_neg e, zb_j _ _ _ _ (by omega), m2 38 0 _ (by omega)]; exact u3 j hj
theorem L_set {a0 a1 a2 : Int32} {M : gh_M} {S : SS} (hC : CS M S) (hR : RS M S) : wp_X6_set a0 a1 a2 M (fun r1 M1 => wp_X7_set a0 a1 a2 M1 (fun r2 M2 => r1 = r2 ∧ OKn M2)) := by
  have hOK : OKn M := ⟨S, hC, hR⟩
  unfold wp_X6_set wp_X7_set
  rcases few a0 7 (by omega) with ⟨r, hr, rfl⟩ | ⟨hb, -⟩
  · refine c_rowy (by omega) ?_
    simp only [z1, not_false_eq_true, t01, false_implies, true_and, and_true]
    simp (disch := omega) only [nI_clamp, zb_in, true_and]
    rintro j hj rfl
    have c1 := hC.2.1
    have r1 := hR.1
    have hc := c1 r (by omega)
    have hr1 := r1 r (by omega)
    cases h9 : S.1.1 r with
    | none =>
      rw [h9] at hc hr1
      have hc : M 2 r 0 = 0 := hc
      have hr1 : M 40 0 r = -1 := hr1
      refine ⟨fun z => absurd hc z, fun _ => ?_⟩
      unfold wp_X6_found
      rintro M4 e4
      refine r_rowy (by omega) ?_
      simp only [z1, not_false_eq_true, t01, false_implies, true_and, and_true]
      have m4 : M4 40 0 r = -1 := by rw [e4, zb_k _ _ _ _ _ _ (by omega)]; exact hr1
      rw [m4]
      refine ⟨fun z => absurd z (by decide), fun _ => ?_⟩
      unfold wp_X7_found
      rintro _ rfl
      exact ⟨rfl, OK_su hC hR _ e4⟩
    | some n =>
      have hn := c1.le r n h9 (by omega)
      rw [h9] at hc hr1
      obtain ⟨p1, p2, p3, p4, p5, p6⟩ := hc
      obtain ⟨s1, s2, s3⟩ := hr1
      refine ⟨fun _ => ?_, fun z => absurd z (by rw [p1]; decide)⟩
      rw [p2]
      rcases ix a1 n (by omega) with ⟨i, hi, rfl⟩ | hb
      · refine w6y (nI_nlt (by omega) (by omega)) (nI_top hi (by omega)) ?_
        simp only [z1, not_false_eq_true, t01, false_implies, true_and, and_true]
        refine c_cut ?_
        rw [p4]
        simp (disch := omega) only [nI_add, pk_mul, nI_clamp, zb_in, true_and]
        rintro _ rfl
        unfold wp_X6_fine
        rw [zb_s]
        rintro M4 e4
        refine r_rowy (by omega) ?_
        simp only [z1, not_false_eq_true, t01, false_implies, true_and, and_true]
        have m4 : ∀ a b j, 32 ≤ a → M4 a b j = M a b j := fun a b j q => by rw [e4, zb_k _ _ _ _ _ _ (by omega), zb_k _ _ _ _ _ _ (by omega)]
        rw [m4 40 0 r (by omega), s1]
        refine ⟨fun _ => ?_, fun z => absurd (nI_pos' (by omega)) z⟩
        refine w7y (nI_nlt (by omega) (by omega)) (nI_top hi (by omega)) ?_
        simp only [z1, not_false_eq_true, t01, false_implies, true_and, and_true]
        rw [m4 39 0 r (by omega), s2]
        unfold cutv at e4 ⊢
        refine ⟨fun g => ⟨fun g' => ?_, fun g' => ?_⟩, fun g => ?_⟩
        · rw [if_neg g, if_neg g'] at e4 ⊢
          rintro M5 e5
          unfold wp_X7_well
          rintro _ rfl
          exact ⟨rfl, OK_item hC hR (by omega) h9 hi e4 e5⟩
        · rw [if_neg g, if_pos g'] at e4 ⊢
          rintro _ rfl M5 e5
          unfold wp_X7_well
          rintro _ rfl
          exact ⟨rfl, OK_item hC hR (by omega) h9 hi e4 e5⟩
        · rw [if_pos g] at e4 ⊢
          rintro _ rfl M5 e5
          unfold wp_X7_well
          rintro _ rfl
          exact ⟨rfl, OK_item hC hR (by omega) h9 hi e4 e5⟩
      · refine w6n hb ?_
        simp only [z0, not_true_eq_false, t01, false_implies, true_and, and_true]
        unfold wp_X6_found
        rintro M4 e4
        refine r_rowy (by omega) ?_
        simp only [z1, not_false_eq_true, t01, false_implies, true_and, and_true]
        have m4 : ∀ a b j, 32 ≤ a → M4 a b j = M a b j := fun a b j q => by rw [e4, zb_k _ _ _ _ _ _ (by omega)]
        rw [m4 40 0 r (by omega), s1]
        refine ⟨fun _ => ?_, fun z => absurd (nI_pos' (by omega)) z⟩
        refine w7n hb ?_
        simp only [z0, not_true_eq_false, t01, false_implies, true_and, and_true]
        unfold wp_X7_found
        rintro _ rfl
        exact ⟨rfl, OK_su hC hR _ e4⟩
  · refine c_rown hb ?_
    simp only [z0, not_true_eq_false, t01, false_implies, true_and, and_true]
    refine r_rown hb ?_
    simp only [z0, not_true_eq_false, t01, false_implies, true_and, and_true]
    exact hOK
-- copying of items in the reference, forwards and backwards
theorem r_cpF_l {M0 : gh_M} {n : Nat} {x1 x2 x3 x4 : Int32} {P Q' : Nat} (eP : nI 40 * x1 + x2 = nI P) (eQ : nI 40 * x3 + x4 = nI Q') (hP : P + n ≤ 320) (hQ' : Q' + n ≤ 320) (hov : Q' ≤ P ∨ P + n ≤ Q') {Q : Int32 → gh_M → Prop} (hn : n ≤ 40)
    (hQ : ∀ M', (∀ k, k < n → M' 38 0 (Q' + k) = M0 38 0 (P + k)) → (∀ a b i, ¬ (a = 38 ∧ b = 0 ∧ Q' ≤ i ∧ i < Q' + n) → M' a b i = M0 a b i) → Q (nI n) (gh_st M' 32 0 13 (nI 0))) :
    ∀ (r k : Nat) (M : gh_M), k + r = n → (∀ i, i < k → M 38 0 (Q' + i) = M0 38 0 (P + i)) → (∀ a b i, ¬ (a = 38 ∧ b = 0 ∧ Q' ≤ i ∧ i < Q' + k) → M a b i = M0 a b i) → wl_X7_copy_112 Q (r + 1) x1 x2 x3 x4 (nI n) (nI 0) (nI k) M := by
  intro r
  induction r with
  | zero =>
    intro k M hk h1 h2
    have e : k = n := by omega
    subst e
    unfold wl_X7_copy_112
    refine ⟨fun _ => ?_, fun h => absurd (Int32.le_refl _) h⟩
    rintro _ rfl
    exact hQ M h1 h2
  | succ r ih =>
    intro k M hk h1 h2
    unfold wl_X7_copy_112
    rw [eP, eQ]
    simp (disch := omega) only [nI_add, nI_clamp, zb_in, true_and]
    refine ⟨fun h => absurd h (nI_ge (by omega) (by omega)), fun _ => ⟨fun _ => ?_, fun z => absurd rfl z⟩⟩
    rintro _ rfl _ rfl
    refine ih (k + 1) _ (by omega) (fun i hi => ?_) (fun a b i h => ?_)
    · rw [zb_st]
      by_cases e : i = k
      · subst e
        rw [if_pos ⟨rfl, rfl, rfl⟩]
        exact h2 38 0 _ (by omega)
      · rw [if_neg (by omega)]; exact h1 i (by omega)
    · rw [zb_st, if_neg (by omega)]; exact h2 a b i (by omega)
theorem r_cpB_l {M0 : gh_M} {n : Nat} {x1 x2 x3 x4 : Int32} {P Q' : Nat} (eP : nI 40 * x1 + x2 = nI P) (eQ : nI 40 * x3 + x4 = nI Q') (hP : P + n ≤ 320) (hQ' : Q' + n ≤ 320) (hov : P ≤ Q') {Q : Int32 → gh_M → Prop} (hn : n ≤ 40)
    (hQ : ∀ M', (∀ k, k < n → M' 38 0 (Q' + k) = M0 38 0 (P + k)) → (∀ a b i, ¬ (a = 38 ∧ b = 0 ∧ Q' ≤ i ∧ i < Q' + n) → M' a b i = M0 a b i) → Q (nI n) (gh_st M' 32 0 13 (nI 0))) :
    ∀ (r k : Nat) (M : gh_M), k + r = n → (∀ i, r ≤ i → i < n → M 38 0 (Q' + i) = M0 38 0 (P + i)) → (∀ a b i, ¬ (a = 38 ∧ b = 0 ∧ Q' + r ≤ i ∧ i < Q' + n) → M a b i = M0 a b i) → wl_X7_copy_112 Q (r + 1) x1 x2 x3 x4 (nI n) (nI 1) (nI k) M := by
  intro r
  induction r with
  | zero =>
    intro k M hk h1 h2
    have e : k = n := by omega
    subst e
    unfold wl_X7_copy_112
    refine ⟨fun _ => ?_, fun h => absurd (Int32.le_refl _) h⟩
    rintro _ rfl
    exact hQ M (fun i hi => h1 i (by omega) hi) (fun a b i h => h2 a b i (by omega))
  | succ r ih =>
    intro k M hk h1 h2
    unfold wl_X7_copy_112
    rw [eP, eQ]
    have er : nI n - nI 1 - nI k = nI r := by rw [pk_sub (by omega), pk_sub (by omega)]; congr 1; omega
    rw [er]
    refine ⟨fun h => absurd h (nI_ge (by omega) (by omega)), fun _ => ⟨fun z => absurd z (by decide), fun _ => ?_⟩⟩
    rintro _ rfl
    simp (disch := omega) only [nI_add, nI_clamp, zb_in, true_and]
    rintro _ rfl _ rfl
    refine ih (k + 1) _ (by omega) (fun i hi hi2 => ?_) (fun a b i h => ?_)
    · rw [zb_st]
      by_cases e : i = r
      · subst e
        rw [if_pos ⟨rfl, rfl, rfl⟩]
        exact h2 38 0 _ (by omega)
      · rw [if_neg (by omega)]; exact h1 i (by omega) hi2
    · rw [zb_st, if_neg (by omega)]; exact h2 a b i (by omega)
theorem L_copy {a0 a1 a2 a3 a4 : Int32} {M : gh_M} {S : SS} (hC : CS M S) (hR : RS M S) : wp_X6_copy a0 a1 a2 a3 a4 M (fun r1 M1 => wp_X7_copy a0 a1 a2 a3 a4 M1 (fun r2 M2 => r1 = r2 ∧ OKn M2)) := by
  have hOK : OKn M := ⟨S, hC, hR⟩
  unfold wp_X6_copy wp_X7_copy
  have c1 := hC.2.1
  have r1 := hR.1
  -- a finding in both
  have fnd : ∀ (v : Int32) (A : gh_M → Prop), (∀ M4, (∀ a b i, 32 ≤ a → M4 a b i = M a b i) → (∀ M5, M5 = gh_st M4 32 0 13 v → OKn M5) → A M4) → ∀ M4, M4 = gh_st M 0 0 9 v → A M4 := by
    intro v A h M4 e4
    refine h M4 (fun a b i q => by rw [e4, zb_k _ _ _ _ _ _ (by omega)]) (fun M5 e5 => ?_)
    rw [e5]
    exact OK_su hC hR _ e4
  rcases few a0 7 (by omega) with ⟨r, hr, rfl⟩ | ⟨hb, -⟩
  · refine c_rowy (by omega) ?_
    simp only [z1, not_false_eq_true, t01, false_implies, true_and, and_true]
    rcases few a2 7 (by omega) with ⟨u, hu, rfl⟩ | ⟨hb, -⟩
    · refine c_rowy (by omega) ?_
      simp only [z1, not_false_eq_true, t01, false_implies, true_and, and_true]
      simp (disch := omega) only [nI_clamp, zb_in, true_and]
      rintro j hj rfl j hj rfl
      have hc := c1 r (by omega)
      have hr1 := r1 r (by omega)
      have hcu := c1 u (by omega)
      have hru := r1 u (by omega)
      cases h9 : S.1.1 r with
      | none =>
        rw [h9] at hc hr1
        have hc : M 2 r 0 = 0 := hc
        have hr1 : M 40 0 r = -1 := hr1
        refine ⟨fun _ => ?_, fun z => absurd hc z⟩
        unfold wp_X6_found
        refine fnd _ _ (fun M4 m4 ok => ?_)
        refine r_rowy (by omega) ?_
        simp only [z1, not_false_eq_true, t01, false_implies, true_and, and_true]
        refine r_rowy (by omega) ?_
        simp only [z1, not_false_eq_true, t01, false_implies, true_and, and_true]
        rw [m4 40 0 r (by omega), hr1]
        refine ⟨fun _ => ?_, fun z => absurd (by decide) z⟩
        unfold wp_X7_found
        exact fun M5 e5 => ⟨rfl, ok M5 e5⟩
      | some n =>
        have hn := c1.le r n h9 (by omega)
        rw [h9] at hc hr1
        obtain ⟨p1, p2, p3, p4, p5, p6⟩ := hc
        obtain ⟨s1, s2, s3⟩ := hr1
        refine ⟨fun z => absurd z (by rw [p1]; decide), fun _ => ?_⟩
        cases h8 : S.1.1 u with
        | none =>
          rw [h8] at hcu hru
          have hcu : M 2 u 0 = 0 := hcu
          have hru : M 40 0 u = -1 := hru
          refine ⟨fun z => absurd hcu z, fun _ => ?_⟩
          unfold wp_X6_found
          refine fnd _ _ (fun M4 m4 ok => ?_)
          refine r_rowy (by omega) ?_
          simp only [z1, not_false_eq_true, t01, false_implies, true_and, and_true]
          refine r_rowy (by omega) ?_
          simp only [z1, not_false_eq_true, t01, false_implies, true_and, and_true]
          rw [m4 40 0 r (by omega), s1, m4 40 0 u (by omega), hru]
          refine ⟨fun z => absurd z (nI_pos (by omega)), fun _ => ⟨fun z => absurd z (by decide), fun _ => ?_⟩⟩
          unfold wp_X7_found
          exact fun M5 e5 => ⟨rfl, ok M5 e5⟩
        | some n2 =>
          have hn2 := c1.le u n2 h8 (by omega)
          rw [h8] at hcu hru
          obtain ⟨v1, v2, v3, v4, v5, v6⟩ := hcu
          obtain ⟨w1, w2, w3⟩ := hru
          refine ⟨fun _ => ?_, fun z => absurd z (by rw [v1]; decide)⟩
          rw [p4, v4]
          have ref : ∀ (rr1 : Int32) (M4 : gh_M), (∀ a b i, 32 ≤ a → M4 a b i = M a b i) → ∀ (A B : Prop) (Z : Int32 → gh_M → Prop), True := fun _ _ _ _ _ _ => trivial
          refine ⟨fun gl => ?_, fun gl => ?_⟩
          · by_cases hp : ∃ i k, a1 = nI i ∧ a4 = nI k ∧ i + k ≤ n
            · by_cases hq : ∃ i k, a3 = nI i ∧ a4 = nI k ∧ i + k ≤ n2
              · obtain ⟨i, k, rfl, rfl, hik⟩ := hp
                obtain ⟨j, k', rfl, ek, hjk⟩ := hq
                by_cases hkk : k < 2 ^ 31 ∧ k' < 2 ^ 31
                · have : k = k' := zb_nI_inj ek hkk.1 hkk.2
                  subst this
                  refine c_hy p2 hik hn ?_
                  simp only [z1, not_false_eq_true, t01, false_implies, true_and, and_true]
                  refine c_hy v2 hjk hn2 ?_
                  simp only [z1, not_false_eq_true, t01, false_implies, true_and, and_true]
                  refine ⟨⟨nI_pos (by omega), nI_pos (by omega), nI_pos (by omega), ?_, ?_⟩, ?_⟩
                  · rw [nI_clamp (by omega), nI_clamp (by omega)]; omega
                  · rw [nI_clamp (by omega), nI_clamp (by omega)]; omega
                  rw [nI_clamp (n := i) (by omega), nI_clamp (n := j) (by omega), nI_clamp (n := k) (by omega)]
                  rintro M1 e1
                  unfold wp_X6_fine
                  rintro M4 e4
                  have g1 : ∀ a b, a ≠ 2 → a ≠ 3 → M1 a b = M a b := fun a b q1 q2 => by rw [e1]; exact gh_row_ne _ _ (by omega)
                  have m4 : ∀ a b i, 32 ≤ a → M4 a b i = M a b i := fun a b i q => by rw [e4, zb_k _ _ _ _ _ _ (by omega), g1 a b (by omega) (by omega)]
                  refine r_rowy (by omega) ?_
                  simp only [z1, not_false_eq_true, t01, false_implies, true_and, and_true]
                  refine r_rowy (by omega) ?_
                  simp only [z1, not_false_eq_true, t01, false_implies, true_and, and_true]
                  rw [m4 40 0 r (by omega), s1, m4 40 0 u (by omega), w1, m4 39 0 r (by omega), s2, m4 39 0 u (by omega), w2]
                  refine ⟨fun z => absurd z (nI_pos (by omega)), fun _ => ⟨fun _ => ⟨fun _ => ?_, fun z => absurd gl z⟩, fun z => absurd (nI_pos' (by omega)) z⟩⟩
                  refine r_py (by omega) ((m4 40 0 r (by omega)).trans s1) hik hn ?_
                  simp only [z1, not_false_eq_true, t01, false_implies, true_and, and_true]
                  refine r_py (by omega) ((m4 40 0 u (by omega)).trans w1) hjk hn2 ?_
                  simp only [z1, not_false_eq_true, t01, false_implies, true_and, and_true]
                  have eP : nI 40 * nI r + nI i = nI (40 * r + i) := by rw [pk_mul, nI_add]
                  have eQ : nI 40 * nI u + nI j = nI (40 * u + j) := by rw [pk_mul, nI_add]
                  have fin : ∀ M5, (∀ q, q < k → M5 38 0 (40 * u + j + q) = M4 38 0 (40 * r + i + q)) → (∀ a b z, ¬ (a = 38 ∧ b = 0 ∧ 40 * u + j ≤ z ∧ z < 40 * u + j + k) → M5 a b z = M4 a b z) → (nI k = nI k ∧ OKn (gh_st M5 32 0 13 (nI 0))) := by
                    intro M5 h5 g5
                    refine ⟨rfl, ?_⟩
                    refine OK_rows (M1 := M1) (R' := (S.1.1, S.1.2.1, fun q => if q = u then va_cpy (S.1.2.2 r) (S.1.2.2 u) i j k else S.1.2.2 q)) hC hR (fun q hq => ?_) g1 e4 (fun q hq => ?_) (fun a b z q1 q2 q3 => g5 a b z (by omega))
                    · have := c1 q hq
                      have e2 : ∀ z, M1 2 q z = M 2 q z := fun z => by rw [e1, gh_row_ne _ _ (by omega)]
                      show match S.1.1 q with
                        | none => M1 2 q 0 = 0
                        | some n => _
                      cases h7 : S.1.1 q with
                      | none => rw [h7] at this; show M1 2 q 0 = 0; rw [e2]; exact this
                      | some m =>
                        rw [h7] at this
                        obtain ⟨x1, x2, x3, x4, x5, x6⟩ := this
                        refine ⟨by rw [e2]; exact x1, by rw [e2]; exact x2, x3, by rw [e2]; exact x4, x5, fun z hz => ?_⟩
                        show M1 3 q z = (if q = u then va_cpy (S.1.2.2 r) (S.1.2.2 u) i j k else S.1.2.2 q) z
                        rw [e1, zb_row]
                        by_cases e : q = u
                        · subst e
                          rw [if_pos ⟨rfl, rfl⟩, if_pos rfl]
                          unfold va_cpy
                          by_cases g : j ≤ z ∧ z < j + k
                          · rw [if_pos g, if_pos g]; exact p6 _ (by omega)
                          · rw [if_neg g, if_neg g]; exact x6 z hz
                        · rw [if_neg (by omega), if_neg e]; exact x6 z hz
                    · have := r1 q hq
                      show match S.1.1 q with
                        | none => M5 40 0 q = -1
                        | some n => _
                      cases h7 : S.1.1 q with
                      | none => rw [h7] at this; show M5 40 0 q = -1; rw [g5 40 0 q (by omega), m4 40 0 q (by omega)]; exact this
                      | some m =>
                        have hm := c1.le q m h7 hq
                        rw [h7] at this
                        obtain ⟨x1, x2, x3⟩ := this
                        refine ⟨by rw [g5 40 0 q (by omega), m4 40 0 q (by omega)]; exact x1, by rw [g5 39 0 q (by omega), m4 39 0 q (by omega)]; exact x2, fun z hz => ?_⟩
                        show M5 38 0 (40 * q + z) = (if q = u then va_cpy (S.1.2.2 r) (S.1.2.2 u) i j k else S.1.2.2 q) z
                        by_cases e : q = u
                        · subst e
                          rw [if_pos rfl]
                          unfold va_cpy
                          by_cases g : j ≤ z ∧ z < j + k
                          · rw [if_pos g]
                            have := h5 (z - j) (by omega)
                            rw [show 40 * q + j + (z - j) = 40 * q + z by omega, m4 38 0 _ (by omega)] at this
                            rw [this, show 40 * r + i + (z - j) = 40 * r + (i + (z - j)) by omega]
                            exact s3 _ (by omega)
                          · rw [if_neg g, g5 38 0 _ (by omega), m4 38 0 _ (by omega)]; exact x3 z hz
                        · rw [if_neg e, g5 38 0 _ (by omega), m4 38 0 _ (by omega)]; exact x3 z hz
                  refine ⟨fun gne => ⟨k + 1, r_cpF_l eP eQ (by omega) (by omega) ?_ (by omega) fin k 0 M4 (by omega) (fun i hi => by omega) (fun _ _ _ _ => rfl)⟩, fun ge => ⟨fun gji => ⟨k + 1, r_cpF_l eP eQ (by omega) (by omega) ?_ (by omega) fin k 0 M4 (by omega) (fun i hi => by omega) (fun _ _ _ _ => rfl)⟩, fun gji => ⟨k + 1, r_cpB_l eP eQ (by omega) (by omega) ?_ (by omega) fin k 0 M4 (by omega) (fun i hi hi2 => by omega) (fun _ _ _ _ => rfl)⟩⟩⟩
                  · have : r ≠ u := fun e => gne (by rw [e])
                    omega
                  · have e1 := zb_nI_inj ge (by omega) (by omega)
                    have e2 := (nI_leI (by omega) (by omega)).mp gji
                    omega
                  · have e1 := zb_nI_inj ge (by omega) (by omega)
                    have e2 : i < j := by
                      rcases Nat.lt_or_ge i j with q | q
                      · exact q
                      · exact absurd (nI_le q (by omega)) gji
                    omega
                · exfalso
                  omega
              · obtain ⟨i, k, rfl, rfl, hik⟩ := hp
                refine c_hy p2 hik hn ?_
                simp only [z1, not_false_eq_true, t01, false_implies, true_and, and_true]
                refine c_hn v2 hq hn2 ?_
                simp only [z0, not_true_eq_false, t01, false_implies, true_and, and_true]
                unfold wp_X6_found
                refine fnd _ _ (fun M4 m4 ok => ?_)
                refine r_rowy (by omega) ?_
                simp only [z1, not_false_eq_true, t01, false_implies, true_and, and_true]
                refine r_rowy (by omega) ?_
                simp only [z1, not_false_eq_true, t01, false_implies, true_and, and_true]
                rw [m4 40 0 r (by omega), s1, m4 40 0 u (by omega), w1, m4 39 0 r (by omega), s2, m4 39 0 u (by omega), w2]
                refine ⟨fun z => absurd z (nI_pos (by omega)), fun _ => ⟨fun _ => ⟨fun _ => ?_, fun z => absurd gl z⟩, fun z => absurd (nI_pos' (by omega)) z⟩⟩
                refine r_py (by omega) ((m4 40 0 r (by omega)).trans s1) hik hn ?_
                simp only [z1, not_false_eq_true, t01, false_implies, true_and, and_true]
                refine r_pn (by omega) ((m4 40 0 u (by omega)).trans w1) hq hn2 ?_
                simp only [z0, not_true_eq_false, t01, false_implies, true_and, and_true]
                unfold wp_X7_found
                exact fun M5 e5 => ⟨rfl, ok M5 e5⟩
            · refine c_hn p2 hp hn ?_
              simp only [z0, not_true_eq_false, t01, false_implies, true_and, and_true]
              unfold wp_X6_found
              refine fnd _ _ (fun M4 m4 ok => ?_)
              refine r_rowy (by omega) ?_
              simp only [z1, not_false_eq_true, t01, false_implies, true_and, and_true]
              refine r_rowy (by omega) ?_
              simp only [z1, not_false_eq_true, t01, false_implies, true_and, and_true]
              rw [m4 40 0 r (by omega), s1, m4 40 0 u (by omega), w1, m4 39 0 r (by omega), s2, m4 39 0 u (by omega), w2]
              refine ⟨fun z => absurd z (nI_pos (by omega)), fun _ => ⟨fun _ => ⟨fun _ => ?_, fun z => absurd gl z⟩, fun z => absurd (nI_pos' (by omega)) z⟩⟩
              refine r_pn (by omega) ((m4 40 0 r (by omega)).trans s1) hp hn ?_
              simp only [z0, not_true_eq_false, t01, false_implies, true_and, and_true]
              unfold wp_X7_found
              exact fun M5 e5 => ⟨rfl, ok M5 e5⟩
          · unfold wp_X6_found
            refine fnd _ _ (fun M4 m4 ok => ?_)
            refine r_rowy (by omega) ?_
            simp only [z1, not_false_eq_true, t01, false_implies, true_and, and_true]
            refine r_rowy (by omega) ?_
            simp only [z1, not_false_eq_true, t01, false_implies, true_and, and_true]
            rw [m4 40 0 r (by omega), s1, m4 40 0 u (by omega), w1, m4 39 0 r (by omega), s2, m4 39 0 u (by omega), w2]
            refine ⟨fun z => absurd z (nI_pos (by omega)), fun _ => ⟨fun _ => ⟨fun z => absurd z gl, fun _ => ?_⟩, fun z => absurd (nI_pos' (by omega)) z⟩⟩
            unfold wp_X7_found
            exact fun M5 e5 => ⟨rfl, ok M5 e5⟩
    · refine c_rown hb ?_
      simp only [z0, not_true_eq_false, t01, false_implies, true_and, and_true]
      refine r_rowy (by omega) ?_
      simp only [z1, not_false_eq_true, t01, false_implies, true_and, and_true]
      refine r_rown hb ?_
      simp only [z0, not_true_eq_false, t01, false_implies, true_and, and_true]
      exact hOK
  · refine c_rown hb ?_
    simp only [z0, not_true_eq_false, t01, false_implies, true_and, and_true]
    refine r_rown hb ?_
    simp only [z0, not_true_eq_false, t01, false_implies, true_and, and_true]
    exact hOK
