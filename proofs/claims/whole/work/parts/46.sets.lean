-- SETS, FEED
def rid (T : TT) (m : Nat) : Nat → Int32
  | 0 => nI 0
  | k + 1 => rid T m k + ((nI m >>> (nI k &&& 31)) &&& nI 1) * T (29 + 7 * k)
theorem bit01 : ∀ m, m < 64 → ∀ k, k < 6 → (nI m >>> (nI k &&& 31)) &&& nI 1 = nI 0 ∨ (nI m >>> (nI k &&& 31)) &&& nI 1 = nI 1 := by decide +kernel
theorem c_rid_l {M : gh_M} {t nt na m : Nat} {T : TT} (hd : cd M t T nt na) (h2 : T 2 = nI na) (ha : na ≤ 6) {Q : Int32 → gh_M → Prop} (hQ : Q (rid T m na) M) :
    ∀ r k, k + r = na → wl_X5_ridersOf_4 t Q (r + 1) (nI m) (rid T m k) (nI k) M := by
  intro r
  induction r with
  | zero =>
    intro k hk
    unfold wl_X5_ridersOf_4
    rw [hd.2.2.1, h2]
    have : k = na := by omega
    subst this
    exact ⟨fun _ => hQ, fun h => absurd (Int32.le_refl _) h⟩
  | succ r ih =>
    intro k hk
    unfold wl_X5_ridersOf_4
    rw [hd.2.2.1, h2, nI_clamp (by omega), hd.c0 (c := k) (by omega)]
    refine ⟨fun h => absurd h (nI_ge (by omega) (by omega)), fun _ => ⟨vp_in_nI (by omega) (by omega), ?_⟩⟩
    rintro y rfl z rfl
    rw [nI_add]
    exact ih (k + 1) (by omega)
theorem r_rid_l {M : gh_M} {na m : Nat} {T : TT} (hr : rr M 0 T) (h2 : T 2 = nI na) (ha : na ≤ 6) (hm : m < 64) {Q : Int32 → gh_M → Prop} (hQ : Q (rid T m na) M) :
    ∀ r k, k + r = na → wl_X7_ridersOf_4 Q (r + 1) (nI m) (rid T m k) (nI k) M := by
  have e2 : M 33 0 2 = nI na := (hr.at0 (i := 2) (by omega) rfl).trans h2
  intro r
  induction r with
  | zero =>
    intro k hk
    unfold wl_X7_ridersOf_4
    rw [nI_clamp (by omega), e2]
    have : k = na := by omega
    subst this
    exact ⟨vp_in_nI (by omega) (by omega), fun _ => hQ, fun h => absurd (Int32.le_refl _) h⟩
  | succ r ih =>
    intro k hk
    unfold wl_X7_ridersOf_4
    rw [nI_clamp (n := 2) (by omega), e2]
    refine ⟨vp_in_nI (by omega) (by omega), fun h => absurd h (nI_ge (by omega) (by omega)), fun _ => ?_⟩
    unfold wp_X7_has
    have e : rid T m (k + 1) = rid T m k + ((nI m >>> (nI k &&& 31)) &&& nI 1) * T (29 + 7 * k) := rfl
    have IH := ih (k + 1) (by omega)
    refine ⟨fun h => ?_, fun h => ?_⟩
    · simp only [z0, not_true_eq_false, t01, false_implies, true_and, and_true]
      rintro y rfl z rfl
      rw [nI_add]
      rw [e, (bit01 m hm k (by omega)).resolve_right h, show nI 0 * T (29 + 7 * k) = nI 0 from Int32.zero_mul] at IH
      exact IH
    · simp only [z1, not_false_eq_true, t01, false_implies, true_and, and_true]
      unfold wp_X7_carAt
      simp (disch := omega) only [nI_add, pk_mul, nI_clamp, zb_in, true_and]
      rintro y rfl z rfl
      rw [hr.at0 (i := 29 + 7 * k) (by omega) (by omega)]
      rw [e, h, show nI 1 * T (29 + 7 * k) = T (29 + 7 * k) from Int32.one_mul _] at IH
      exact IH
def stF (T : TT) (na : Nat) (v o : Int32) : Nat → Nat → Int32 × Int32 × Int32 → Int32 × Int32 × Int32
  | 0, _, s => s
  | r + 1, m, s => stF T na v o r (m + 1) (if nI m &&& o = 0 ∧ rid T m na = v then (s.1 + nI 1, s.2.1 &&& nI m, s.2.2 ||| nI m) else s)
def seR (s : Int32 × Int32 × Int32) (w : Nat) : Int32 := if w = 0 then s.1 else if w = 1 then (if s.1 = 0 then nI 0 else s.2.1) else s.2.2
theorem p2le6 {n : Nat} (h : n ≤ 6) : 2 ^ n ≤ 64 := by
  have : n = 0 ∨ n = 1 ∨ n = 2 ∨ n = 3 ∨ n = 4 ∨ n = 5 ∨ n = 6 := by omega
  rcases this with rfl | rfl | rfl | rfl | rfl | rfl | rfl <;> decide
theorem c_sets_l {M : gh_M} {nt na w : Nat} {v o : Int32} {T : TT} (hd : cd M 0 T nt na) (h2 : T 2 = nI na) (ha : na ≤ 6) (hw : w ≤ 2) {Q : Int32 → gh_M → Prop} :
    ∀ (r m : Nat) (s : Int32 × Int32 × Int32), m + r = 2 ^ na → Q (seR (stF T na v o r m s) w) M → wl_X5_setsWith_24 0 Q (r + 1) v (nI w) o s.1 s.2.1 s.2.2 (nI m) M := by
  have p64 := p2le6 ha
  intro r
  induction r with
  | zero =>
    intro m s hm hQ
    unfold wl_X5_setsWith_24
    rw [hd.2.2.1, h2, p2 _ (by omega)]
    have : m = 2 ^ na := by omega
    subst this
    unfold stF seR at hQ
    have z0' : (nI w = 0) ↔ w = 0 := nI_eq (b := 0) (by omega) (by omega)
    rw [z0', nI_eq (a := w) (b := 2) (by omega) (by omega)]
    refine ⟨fun _ => ⟨fun q => ⟨fun q2 => ⟨fun q3 => ?_, fun q3 => ?_⟩, fun q2 => ?_⟩, fun q => ?_⟩, fun h => absurd (Int32.le_refl _) h⟩
    · rw [if_neg q, if_pos (by omega), if_neg q3] at hQ; exact hQ
    · rw [if_neg q, if_pos (by omega), if_pos q3] at hQ; exact hQ
    · rw [if_neg q, if_neg (by omega)] at hQ; exact hQ
    · rw [if_pos q] at hQ; exact hQ
  | succ r ih =>
    intro m s hm hQ
    unfold wl_X5_setsWith_24
    rw [hd.2.2.1, h2, p2 _ (by omega)]
    refine ⟨fun h => absurd h (nI_ge (by omega) (by omega)), fun _ => ?_⟩
    unfold stF at hQ
    refine ⟨fun q => ?_, fun q => ?_⟩
    · rintro y rfl
      rw [nI_add]
      rw [if_neg (fun z => q z.1)] at hQ
      exact ih (m + 1) s (by omega) hQ
    · refine ⟨na + 1, c_rid_l hd h2 ha ⟨fun q2 => ?_, fun q2 => ?_⟩ na 0 (by omega)⟩
      · rintro y rfl
        rw [nI_add]
        rw [if_neg (fun z => q2 z.2)] at hQ
        exact ih (m + 1) s (by omega) hQ
      · rintro _ rfl _ rfl _ rfl _ rfl
        rw [nI_add]
        rw [if_pos ⟨q, q2⟩] at hQ
        exact ih (m + 1) _ (by omega) hQ
theorem r_sets_l {M : gh_M} {na w : Nat} {v : Int32} {T : TT} (hr : rr M 0 T) (h2 : T 2 = nI na) (ha : na ≤ 6) (hw : w ≤ 2) {Q : Int32 → gh_M → Prop} :
    ∀ (r m : Nat) (s : Int32 × Int32 × Int32), m + r = 2 ^ na → Q (seR (stF T na v (sbit (sp_th T 3) na) r m s) w) M → wl_X7_sets_52 Q (r + 1) v (nI w) s.1 s.2.1 s.2.2 (nI m) M := by
  have p64 := p2le6 ha
  have e2 : M 33 0 2 = nI na := (hr.at0 (i := 2) (by omega) rfl).trans h2
  intro r
  induction r with
  | zero =>
    intro m s hm hQ
    unfold wl_X7_sets_52
    rw [nI_clamp (n := 2) (by omega), e2, p2 _ (by omega)]
    have : m = 2 ^ na := by omega
    subst this
    unfold stF seR at hQ
    have z0' : (nI w = 0) ↔ w = 0 := nI_eq (b := 0) (by omega) (by omega)
    rw [z0', nI_eq (a := w) (b := 1) (by omega) (by omega)]
    refine ⟨vp_in_nI (by omega) (by omega), fun _ => ⟨fun q => ⟨fun q2 => ?_, fun q2 => ⟨fun q3 => ?_, fun q3 => ?_⟩⟩, fun q => ?_⟩, fun h => absurd (Int32.le_refl _) h⟩
    · rw [if_neg q, if_neg q2] at hQ; exact hQ
    · rw [if_neg q, if_pos q2, if_neg q3] at hQ; exact hQ
    · rw [if_neg q, if_pos q2, if_pos q3] at hQ; exact hQ
    · rw [if_pos q] at hQ; exact hQ
  | succ r ih =>
    intro m s hm hQ
    unfold wl_X7_sets_52
    rw [nI_clamp (n := 2) (by omega), e2, p2 _ (by omega)]
    refine ⟨vp_in_nI (by omega) (by omega), fun h => absurd h (nI_ge (by omega) (by omega)), fun _ => ?_⟩
    refine r_that (x := 0) (how := 3) (by omega) hr h2 ha (by omega) ?_
    unfold stF at hQ
    refine ⟨fun q => ?_, fun q => ?_⟩
    · rintro y rfl
      rw [nI_add]
      rw [if_neg (fun z => q z.1)] at hQ
      exact ih (m + 1) s (by omega) hQ
    · refine ⟨na + 1, r_rid_l hr h2 ha (by omega) ⟨fun q2 => ?_, fun q2 => ?_⟩ na 0 (by omega)⟩
      · rintro y rfl
        rw [nI_add]
        rw [if_neg (fun z => q2 z.2)] at hQ
        exact ih (m + 1) s (by omega) hQ
      · rintro _ rfl _ rfl _ rfl _ rfl
        rw [nI_add]
        rw [if_pos ⟨q, q2⟩] at hQ
        exact ih (m + 1) _ (by omega) hQ
theorem L_sets {a0 a1 : Int32} {M : gh_M} {S : SS} (hC : CS M S) (hR : RS M S) : wp_X6_sets a0 a1 M (fun r1 M1 => wp_X7_sets a0 a1 M1 (fun r2 M2 => r1 = r2 ∧ OKn M2)) := by
  have hOK : OKn M := ⟨S, hC, hR⟩
  have hT := hC.2.2.2.2.2.2.1
  have hT2 := hR.2.2.2.2.2.1
  obtain ⟨e0, e1, e2, b0, b1, b2⟩ := hT.hd
  obtain ⟨f0, f1, f2⟩ := hT2.hd hT.ok
  unfold wp_X6_sets wp_X7_sets
  cases hX : S.2.2.2.2.1 with
  | none =>
    rw [hX] at e2 f0
    refine c_hasn e2 ?_
    simp only [z0, not_true_eq_false, t01, false_implies, true_and, and_true]
    refine r_hasn f0 ?_
    simp only [z0, not_true_eq_false, t01, false_implies, true_and, and_true]
    exact hOK
  | some X =>
    rw [hX] at e0 e1 e2 f0 f1 f2 b0 b1 b2
    obtain ⟨hk, hz, h19⟩ := hC.trn hX
    have hr := hR.trn hX
    have o1 : 4 ≤ X.2.1.1 := hk.2.1
    have o3 := hk.2.2.2.1
    have p0 : 0 < onc (some X) := Nat.lt_of_lt_of_le (by omega) o1
    refine c_hasy e2 (by exact o3) (by omega) ?_
    simp only [z1, not_false_eq_true, t01, false_implies, true_and, and_true]
    by_cases hv : ¬ a0 < nI 0 ∧ ¬ nI 24 < a0
    · refine w6y hv.1 hv.2 ?_
      simp only [z1, not_false_eq_true, t01, false_implies, true_and, and_true]
      rcases few a1 2 (by omega) with ⟨w, hw, rfl⟩ | ⟨hb, -⟩
      · refine w6y (nI_nlt (by omega) (by omega)) (nI_nlt hw (by omega)) ?_
        simp only [z1, not_false_eq_true, t01, false_implies, true_and, and_true]
        unfold wp_X5_setsWith
        refine c_out hz.cd hk.hd.2.2.1 b2 ?_
        rintro y rfl
        rw [show M 6 0 2 = nI X.2.1.2.2 from e2]
        refine ⟨2 ^ X.2.1.2.2 + 1, c_sets_l hz.cd hk.hd.2.2.1 b2 hw (2 ^ X.2.1.2.2) 0 (nI 0, (nI 1 <<< (nI X.2.1.2.2 &&& 31)) - nI 1, nI 0) (by omega) ?_⟩
        refine r_hasy f0 p0 (by omega) ?_
        simp only [z1, not_false_eq_true, t01, false_implies, true_and, and_true]
        refine w7y hv.1 hv.2 ?_
        simp only [z1, not_false_eq_true, t01, false_implies, true_and, and_true]
        refine w7y (nI_nlt (by omega) (by omega)) (nI_nlt hw (by omega)) ?_
        simp only [z1, not_false_eq_true, t01, false_implies, true_and, and_true]
        rw [nI_clamp (n := 2) (by omega), show M 33 0 2 = nI X.2.1.2.2 from f2]
        refine ⟨vp_in_nI (by omega) (by omega), ?_⟩
        rintro y rfl
        exact ⟨2 ^ X.2.1.2.2 + 1, r_sets_l hr hk.hd.2.2.1 b2 hw (2 ^ X.2.1.2.2) 0 (nI 0, (nI 1 <<< (nI X.2.1.2.2 &&& 31)) - nI 1, nI 0) (by omega) ⟨rfl, hOK⟩⟩
      · refine w6n hb ?_
        simp only [z0, not_true_eq_false, t01, false_implies, true_and, and_true]
        refine r_hasy f0 p0 (by omega) ?_
        simp only [z1, not_false_eq_true, t01, false_implies, true_and, and_true]
        refine w7y hv.1 hv.2 ?_
        simp only [z1, not_false_eq_true, t01, false_implies, true_and, and_true]
        refine w7n hb ?_
        simp only [z0, not_true_eq_false, t01, false_implies, true_and, and_true]
        exact hOK
    · have hb : a0 < nI 0 ∨ nI 24 < a0 := by
        by_cases q : a0 < nI 0
        · exact Or.inl q
        · by_cases q2 : nI 24 < a0
          · exact Or.inr q2
          · exact absurd ⟨q, q2⟩ hv
      refine w6n hb ?_
      simp only [z0, not_true_eq_false, t01, false_implies, true_and, and_true]
      refine r_hasy f0 p0 (by omega) ?_
      simp only [z1, not_false_eq_true, t01, false_implies, true_and, and_true]
      refine w7n hb ?_
      simp only [z0, not_true_eq_false, t01, false_implies, true_and, and_true]
      exact hOK
-- FEED
def stP (S : SS) (n : Nat) (p : Nat → Int32) : SS := (S.1, (n, p), S.2.2)
theorem CS.tap {M0 M : gh_M} {S : SS} {n : Nat} {p : Nat → Int32} (hC : CS M0 S) (hT : cTap M n p) (e : ∀ a b, a ≠ 4 → a ≠ 5 → M a b = M0 a b) : CS M (stP S n p) := by
  obtain ⟨h0, h1, h2, h3, h4, h5, h6, h7, h8, h9⟩ := hC
  refine ⟨fun t ht => ?_, h1.mv (fun a b q => e a b (by omega) (by omega)), hT, ?_, ?_, ?_, h6.mv (fun a q1 q2 => e a 0 (by omega) (by omega)), h7.mv (fun a t q1 q2 q3 q4 => e a t (by omega) (by omega)) (e 21 0 (by omega) (by omega)), h8.mv (fun a t q1 q2 q3 q4 => e a t (by omega) (by omega)), h9.mv ?_ ?_ ?_⟩
  · have := h0 t ht
    unfold bo at this ⊢
    rw [e 10 t (by omega) (by omega), e 18 t (by omega) (by omega)]
    exact this
  · rw [e 0 0 (by omega) (by omega)]; exact h3
  · rw [e 0 0 (by omega) (by omega)]; exact h4
  · unfold cTrc at h5 ⊢
    rw [e 30 0 (by omega) (by omega), e 31 0 (by omega) (by omega)]
    exact h5
  · rw [e 24 0 (by omega) (by omega)]
  · rw [e 24 0 (by omega) (by omega)]
  · rw [e 26 0 (by omega) (by omega)]
theorem RS.tap {M0 M : gh_M} {S : SS} {n : Nat} {p : Nat → Int32} (hR : RS M0 S) (hT : rTap M n p) (e : ∀ a b i, ¬ (a = 32 ∧ b = 0 ∧ i = 8) → a ≠ 37 → M a b i = M0 a b i) : RS M (stP S n p) := by
  obtain ⟨h1, h2, h3, h4, h5, h6, h7, h8⟩ := hR
  have er : ∀ x T, rr M0 x T → rr M x T := fun x T g i hi => (e 33 0 (x + i) (by omega) (by omega)).trans (g i hi)
  refine ⟨h1.mv (fun a i q => e a 0 i (by omega) (by omega)), hT, ?_, ?_, ⟨?_, fun i hi => ?_⟩, ?_, ⟨?_, fun i hi => ?_⟩, ⟨?_, fun k hk X hX => ?_⟩⟩
  · rw [e 32 0 9 (by omega) (by omega)]; exact h3
  · rw [e 32 0 13 (by omega) (by omega)]; exact h4
  · rw [e 32 0 15 (by omega) (by omega)]; exact h5.1
  · rw [e 41 0 i (by omega) (by omega)]; exact h5.2 i hi
  · show rTrn M S.2.2.2.2.1
    unfold rTrn at h6 ⊢
    cases q : S.2.2.2.2.1 with
    | none =>
      rw [q] at h6
      show M 33 0 0 = nI 0 ∧ M 33 0 1 = nI 0 ∧ M 33 0 2 = nI 0 ∧ M 33 0 3 = nI 0
      rw [e 33 0 0 (by omega) (by omega), e 33 0 1 (by omega) (by omega), e 33 0 2 (by omega) (by omega), e 33 0 3 (by omega) (by omega)]
      exact h6
    | some X => rw [q] at h6; exact er _ _ h6
  · rw [e 32 0 1 (by omega) (by omega)]; exact h7.1
  · exact er _ _ (h7.2 i hi)
  · rw [e 32 0 2 (by omega) (by omega)]; exact h8.1
  · exact er _ _ (h8.2 k hk X hX)
theorem L_feed {a0 : Int32} {M : gh_M} {S : SS} (hC : CS M S) (hR : RS M S) : wp_X6_feed a0 M (fun r1 M1 => wp_X7_feed a0 M1 (fun r2 M2 => r1 = r2 ∧ OKn M2)) := by
  have hOK : OKn M := ⟨S, hC, hR⟩
  obtain ⟨t1, t2, t3⟩ := hC.2.2.1
  obtain ⟨s1, s2⟩ := hR.2.1
  unfold wp_X6_feed wp_X7_feed
  by_cases hv : ¬ a0 < nI 0 ∧ ¬ nI 255 < a0
  · refine w6y hv.1 hv.2 ?_
    simp only [z1, not_false_eq_true, t01, false_implies, true_and, and_true]
    rw [t2, nI_clamp (by omega)]
    refine ⟨fun h => ?_, fun h => ?_⟩
    · have hn : S.2.1.1 < 100 := by
        rcases Nat.lt_or_ge S.2.1.1 100 with q | q
        · exact q
        · exact absurd h (nI_nlt q (by omega))
      refine ⟨vp_in_nI hn (by omega), ?_⟩
      rintro M6 e6 M7 e7
      have e61 : M6 4 0 1 = nI S.2.1.1 := by rw [e6, zb_k _ _ _ _ _ _ (by omega)]; exact t2
      rw [e61, nI_add] at e7
      have e71 : M7 4 0 1 = nI (S.2.1.1 + 1) := by rw [e7, zb_s]
      rw [e71]
      have fr : fR M M7 := fun a b q => by rw [e7, zb_kr _ _ _ _ _ (by omega), e6, zb_kr _ _ _ _ _ (by omega)]
      have hC7 := hC.tap (M := M7) (n := S.2.1.1 + 1) (p := fun i => if i = S.2.1.1 then a0 else S.2.1.2 i) ⟨by omega, e71, fun i hi => by
        rw [e7, zb_k _ _ _ _ _ _ (by omega), e6]
        dsimp only
        by_cases q : i = S.2.1.1
        · rw [if_pos q, q, zb_s]
        · rw [if_neg q, zb_j _ _ _ _ q]; exact t3 i (by omega)⟩ (fun a b q1 q2 => by rw [e7, zb_kr _ _ _ _ _ q1, e6, zb_kr _ _ _ _ _ q2])
      have hR7 := hR.fR fr hC.n24
      refine w7y hv.1 hv.2 ?_
      simp only [z1, not_false_eq_true, t01, false_implies, true_and, and_true]
      rw [hR7.2.1.1, nI_clamp (by omega)]
      refine ⟨fun _ => ⟨vp_in_nI hn (by omega), ?_⟩, fun z => absurd (zb_nI_inj z (by omega) (by omega)) (by omega)⟩
      rintro M8 e8 M9 e9
      have e81 : M8 32 0 8 = nI S.2.1.1 := by rw [e8, zb_k _ _ _ _ _ _ (by omega)]; exact hR7.2.1.1
      rw [e81, nI_add] at e9
      have e91 : M9 32 0 8 = nI (S.2.1.1 + 1) := by rw [e9, zb_s]
      refine ⟨e91.symm, _, hC7.fC (fun a b q => by rw [e9, zb_kr _ _ _ _ _ (by omega), e8, zb_kr _ _ _ _ _ (by omega)]), hR7.tap (M := M9) ⟨e91, fun i hi => ?_⟩ (fun a b i q1 q2 => by rw [e9, zb_st, if_neg q1, e8, zb_k _ _ _ _ _ _ q2])⟩
      rw [e9, zb_k _ _ _ _ _ _ (by omega), e8]
      dsimp only
      by_cases q : i = S.2.1.1
      · rw [if_pos q, q, zb_s]
      · rw [if_neg q, zb_j _ _ _ _ q]; exact hR7.2.1.2 i (by omega)
    · have hn : S.2.1.1 = 100 := by
        rcases Nat.lt_or_ge S.2.1.1 100 with q | q
        · exact absurd (nI_lt q (by omega)) h
        · omega
      refine w7y hv.1 hv.2 ?_
      simp only [z1, not_false_eq_true, t01, false_implies, true_and, and_true]
      rw [s1, hn]
      exact ⟨fun z => absurd rfl z, fun _ => hOK⟩
  · have hb : a0 < nI 0 ∨ nI 255 < a0 := by
      by_cases q : a0 < nI 0
      · exact Or.inl q
      · by_cases q2 : nI 255 < a0
        · exact Or.inr q2
        · exact absurd ⟨q, q2⟩ hv
    refine w6n hb ?_
    simp only [z0, not_true_eq_false, t01, false_implies, true_and, and_true]
    refine w7n hb ?_
    simp only [z0, not_true_eq_false, t01, false_implies, true_and, and_true]
    exact hOK
