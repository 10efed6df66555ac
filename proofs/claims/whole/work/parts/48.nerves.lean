-- NERVES
theorem CS.he {M M' : gh_M} {S : SS} (h : CS M S) (e : ∀ a b, a ≠ 24 → a ≠ 25 → M' a b = M a b) (e6 : M' 24 0 6 = M 24 0 6) (e7 : M' 24 0 7 = M 24 0 7) : CS M' S := by
  obtain ⟨h0, h1, h2, h3, h4, h5, h6, h7, h8, h9⟩ := h
  refine ⟨fun t ht => ?_, h1.mv (fun a b q => e a b (by omega) (by omega)), ?_, ?_, ?_, ?_, h6.mv (fun a q1 q2 => e a 0 (by omega) (by omega)), h7.mv (fun a t q1 q2 q3 q4 => e a t (by omega) (by omega)) (e 21 0 (by omega) (by omega)), h8.mv (fun a t q1 q2 q3 q4 => e a t (by omega) (by omega)), h9.mv e6 e7 (e 26 0 (by omega) (by omega))⟩
  · have := h0 t ht
    unfold bo at this ⊢
    rw [e 10 t (by omega) (by omega), e 18 t (by omega) (by omega)]
    exact this
  · unfold cTap at h2 ⊢
    rw [e 4 0 (by omega) (by omega), e 5 0 (by omega) (by omega)]
    exact h2
  · rw [e 0 0 (by omega) (by omega)]; exact h3
  · rw [e 0 0 (by omega) (by omega)]; exact h4
  · unfold cTrc at h5 ⊢
    rw [e 30 0 (by omega) (by omega), e 31 0 (by omega) (by omega)]
    exact h5
theorem c_hear {M : gh_M} {S : SS} {r i0 n k : Nat} (hC : CS M S) (hr : r < 8) (h9 : S.1.1 r = some k) (hik : i0 + n ≤ k) (hn1 : 1 ≤ n) (hn : n ≤ 12) {Q : gh_M → Prop} (hQ : ∀ M', CS M' S → fR M M' → M' 24 0 2 = nI n → (∀ i, i < n → M' 25 0 i = S.1.2.2 r (i0 + i)) → Q M') : wp_X2_hear r (nI i0) (nI n) M Q := by
  have c1 := hC.2.1
  have hc := c1 r hr
  have hk := c1.le r k h9 hr
  rw [h9] at hc
  obtain ⟨p1, p2, p3, p4, p5, p6⟩ := hc
  unfold wp_X2_hear
  refine c_hy p2 hik hk ?_
  simp only [z1, not_false_eq_true, t01, false_implies, true_and, and_true]
  rw [if_neg (nI_nlt (a := 12) (by omega) (by omega))]
  rintro M8 e8
  have e82 : M8 24 0 2 = nI n := by rw [e8, zb_s]
  rw [e82]
  refine ⟨fun z => absurd z (nI_nle (by omega) (by omega)), fun _ => ⟨⟨nI_pos (by omega), nI_pos (by omega), nI_pos (by omega), ?_, ?_⟩, ?_⟩⟩
  · rw [nI_clamp (by omega), nI_clamp (by omega)]; omega
  · rw [nI_clamp (by omega), nI_clamp (by omega)]; omega
  rw [nI_clamp (n := i0) (by omega), nI_clamp (n := 0) (by omega), nI_clamp (n := n) (by omega)]
  rintro M9 e9
  have e : ∀ a b, a ≠ 24 → a ≠ 25 → M9 a b = M a b := fun a b q1 q2 => by rw [e9, gh_row_ne _ _ (by omega), e8, zb_kr _ _ _ _ _ q1]
  refine hQ M9 (hC.he e ?_ ?_) (fun a b q => e a b (by omega) (by omega)) ?_ (fun i hi => ?_)
  · rw [e9, gh_row_ne _ _ (by omega), e8, zb_j _ _ _ _ (by omega)]
  · rw [e9, gh_row_ne _ _ (by omega), e8, zb_j _ _ _ _ (by omega)]
  · rw [e9, gh_row_ne _ _ (by omega)]; exact e82
  · rw [e9, zb_row, if_pos ⟨rfl, rfl⟩]
    unfold va_cpy
    rw [if_pos (by omega), e8, zb_k _ _ _ _ _ _ (by omega), Nat.sub_zero]
    exact p6 _ (by omega)
theorem c_find {M : gh_M} {S : SS} {r : Nat} {a b : Int32} (hC : CS M S) (hr : r < 8) {Q : Int32 → gh_M → Prop} (h1 : S.1.1 r = none → Q (nI 1) M) (h2 : ∀ k, S.1.1 r = some k → ¬ (∃ i n, a = nI i ∧ b = nI n ∧ i + n ≤ k) → Q (nI 2) M) (h0 : ∀ k i n, S.1.1 r = some k → a = nI i → b = nI n → i + n ≤ k → Q (nI 0) M) : wp_X6_findingIn r a b M Q := by
  have c1 := hC.2.1
  have hc := c1 r hr
  unfold wp_X6_findingIn
  cases h9 : S.1.1 r with
  | none =>
    rw [h9] at hc
    have hc : M 2 r 0 = 0 := hc
    exact ⟨fun z => absurd hc z, fun _ => h1 h9⟩
  | some k =>
    have hk := c1.le r k h9 hr
    rw [h9] at hc
    obtain ⟨p1, p2, -⟩ := hc
    refine ⟨fun _ => ?_, fun z => absurd z (by rw [p1]; decide)⟩
    by_cases q : ∃ i n, a = nI i ∧ b = nI n ∧ i + n ≤ k
    · obtain ⟨i, n, rfl, rfl, hin⟩ := q
      refine c_hy p2 hin hk ?_
      simp only [z1, not_false_eq_true, t01, false_implies, true_and, and_true]
      exact h0 k i n h9 rfl rfl hin
    · refine c_hn p2 q hk ?_
      simp only [z0, not_true_eq_false, t01, false_implies, true_and, and_true]
      exact h2 k h9 q
theorem r_wrong {M : gh_M} {S : SS} {r : Nat} {a b : Int32} (hC : cRow M S.1) (hR : RS M S) (hr : r < 8) {Q : Int32 → gh_M → Prop} (h1 : S.1.1 r = none → Q ((-1000010 : Int32) - nI 1) (gh_st M 32 0 13 (nI 1))) (h2 : ∀ k, S.1.1 r = some k → ¬ (∃ i n, a = nI i ∧ b = nI n ∧ i + n ≤ k) → Q ((-1000010 : Int32) - nI 2) (gh_st M 32 0 13 (nI 2))) (h0 : ∀ k i n, S.1.1 r = some k → a = nI i → b = nI n → i + n ≤ k → Q (nI 0) M) : wp_X7_wrongRow (nI r) a b M Q := by
  have c1 := hR.1
  have hc := c1 r hr
  unfold wp_X7_wrongRow wp_X7_found
  rw [nI_clamp (by omega)]
  refine ⟨vp_in_nI (by omega) (by omega), ?_⟩
  cases h9 : S.1.1 r with
  | none =>
    rw [h9] at hc
    have hc : M 40 0 r = -1 := hc
    rw [hc]
    exact ⟨fun z => absurd z (by decide), fun _ => fun M2 e2 => by rw [e2]; exact h1 h9⟩
  | some k =>
    have hk := hC.le r k h9 hr
    rw [h9] at hc
    obtain ⟨s1, -⟩ := hc
    rw [s1]
    refine ⟨fun _ => ?_, fun z => absurd (nI_pos' (by omega)) z⟩
    by_cases q : ∃ i n, a = nI i ∧ b = nI n ∧ i + n ≤ k
    · obtain ⟨i, n, rfl, rfl, hin⟩ := q
      refine r_py hr s1 hin hk ?_
      simp only [z1, not_false_eq_true, t01, false_implies, true_and, and_true]
      exact h0 k i n h9 rfl rfl hin
    · refine r_pn hr s1 q hk ?_
      simp only [z0, not_true_eq_false, t01, false_implies, true_and, and_true]
      intro M2 e2
      rw [e2]
      exact h2 k h9 q
def ctS (p : Nat → Bool) : Nat → Nat
  | 0 => 0
  | r + 1 => ctS p r + (if p (r + 1) = true then 1 else 0)
def fsS (p : Nat → Bool) : Nat → Option Nat
  | 0 => none
  | r + 1 => match fsS p r with
    | some a => some a
    | none => if p (r + 1) = true then some (r + 1) else none
theorem ctS_le (p : Nat → Bool) : ∀ n, ctS p n ≤ n
  | 0 => Nat.le_refl _
  | n + 1 => by
    have := ctS_le p n
    unfold ctS
    split <;> omega
theorem fsS_le (p : Nat → Bool) : ∀ n a, fsS p n = some a → a ≤ n
  | 0, a, h => by cases h
  | n + 1, a, h => by
    unfold fsS at h
    cases q : fsS p n with
    | some b =>
      rw [q] at h
      injection h with h
      have := fsS_le p n b q
      omega
    | none =>
      rw [q] at h
      dsimp only at h
      split at h
      · injection h with h; omega
      · cases h
def orE (a b : Option Nat) : Option Nat := match a with
  | some x => some x
  | none => b
theorem nI_dec (r : Nat) : nI (r + 1) + (-1 : Int32) = nI r := by
  rw [← nI_add, Int32.add_assoc, show nI 1 + (-1 : Int32) = 0 by decide, Int32.add_zero]
/-- whether a car with that nerve fits what is told -/
def fitN (X : TR) (u n : Nat) (p : Nat → Int32) (v : Nat) : Bool := tlF X.2 u p n 0 (upd X.1 (29 + 7 * u + 1) (nI v))
theorem c_nerves_l {M0 : gh_M} {S : SS} {X : TR} {u n w : Nat} {p : Nat → Int32} (hC0 : CS M0 S) (hX : S.2.2.2.2.1 = some X) (hu : u < X.2.1.2.2) (hk : trOK X) (hn : n ≤ 12) (e2 : M0 24 0 2 = nI n) (ep : ∀ i, i < n → M0 25 0 i = p i) {Q : Int32 → gh_M → Prop} :
    ∀ (r k : Nat) (M : gh_M), k + r = 60 → CS M S → ft 28 M0 M → (∀ M', CS M' S → ft 28 M0 M' → Q (if nI w = 0 then nI (ctS (fitN X u n p) 60) else sp_inv (fsS (fitN X u n p) 60)) M') → wl_X2_fittingNerves_10 0 Q (r + 1) (nI u) (nI w) (nI (ctS (fitN X u n p) k)) (sp_inv (fsS (fitN X u n p) k)) (nI (k + 1)) M := by
  have b1 := hk.hd.2.2.2.2.1
  have b2 := hk.hd.2.2.2.2.2.1
  intro r
  induction r with
  | zero =>
    intro k M hk60 hC hf hQ
    have : k = 60 := by omega
    subst this
    unfold wl_X2_fittingNerves_10
    have := hQ M hC hf
    refine ⟨fun _ => ⟨fun q => ?_, fun q => ?_⟩, fun h => absurd (nI_lt (by omega) (by omega)) h⟩
    · rw [if_neg q] at this; exact this
    · rw [if_pos q] at this; exact this
  | succ r ih =>
    intro k M hk60 hC hf hQ
    unfold wl_X2_fittingNerves_10
    refine ⟨fun h => absurd h (nI_nlt (by omega) (by omega)), fun _ => ?_⟩
    refine y_copy hC hX (fun M2 g2 z2 => ⟨vp_in_nI (by omega) (by omega), ?_⟩)
    rw [nI_clamp (n := u) (by omega)]
    rintro M3 rfl
    obtain ⟨z3, g3⟩ := y_re z2 (z2.1.C1 b1 (c := u) (nI (k + 1)))
    have hh3 : hdk (upd X.1 (29 + 7 * u + 1) (nI (k + 1))) X.2 := hdk.up hk.hd (by omega) (fun c hc => by omega)
    refine ⟨n + 1, c_told_l (M0 := M0) hu b2 hn (by have := hk.2.1; omega) e2 ep n 0 _ _ (by omega) (hf.tr (g2.tr g3)) z3 hh3 (fun M4 T4 f4 z4 => ?_)⟩
    have hC4 : CS M4 S := cs_zf hC0 f4.ff z4
    have ec : ctS (fitN X u n p) (k + 1) = ctS (fitN X u n p) k + (if fitN X u n p (k + 1) = true then 1 else 0) := rfl
    have ef : fsS (fitN X u n p) (k + 1) = match fsS (fitN X u n p) k with
      | some a => some a
      | none => if fitN X u n p (k + 1) = true then some (k + 1) else none := rfl
    have IH := ih (k + 1) M4 (by omega) hC4 f4 hQ
    have eF : tlF X.2 u p n 0 (upd X.1 (29 + 7 * u + 1) (nI (k + 1))) = fitN X u n p (k + 1) := rfl
    rw [eF]
    by_cases q : fitN X u n p (k + 1) = true
    · rw [if_pos q]
      simp only [z1, not_false_eq_true, t01, false_implies, true_and, and_true]
      rw [ec, if_pos q, ef] at IH
      rintro y rfl
      rw [nI_add]
      cases q2 : fsS (fitN X u n p) k with
      | none =>
        rw [q2] at IH
        dsimp only at IH
        rw [if_pos q] at IH
        refine ⟨fun z => absurd rfl z, fun _ => ?_⟩
        rintro z rfl
        rw [nI_add]
        exact IH
      | some a =>
        rw [q2] at IH
        have ha := fsS_le _ k a q2
        refine ⟨fun _ => ?_, fun z => absurd z (sp_inv_ne (by omega))⟩
        rintro z rfl
        rw [nI_add]
        exact IH
    · rw [if_neg q]
      simp only [z0, not_true_eq_false, t01, false_implies, true_and, and_true]
      rw [ec, if_neg q, ef] at IH
      rintro z rfl
      rw [nI_add]
      have e3 : (match fsS (fitN X u n p) k with
        | some a => some a
        | none => if fitN X u n p (k + 1) = true then some (k + 1) else none) = fsS (fitN X u n p) k := by
        cases fsS (fitN X u n p) k with
        | none => dsimp only; rw [if_neg q]
        | some a => rfl
      rw [e3] at IH
      exact IH
theorem r_nerves_l {M0 : gh_M} {S : SS} {X : TR} {u n w rw0 i0 : Nat} {p : Nat → Int32} (hR0 : RS M0 S) (hn24 : S.2.2.2.2.2.1.1 ≤ 24) (hX : S.2.2.2.2.1 = some X) (hu : u < X.2.1.2.2) (hk : trOK X) (hn : n ≤ 12) (hrw : rw0 < 8) (hi0 : i0 + n ≤ 40) (ep : ∀ i, i < n → M0 38 0 (40 * rw0 + i0 + i) = p i) {Q : Int32 → gh_M → Prop} :
    ∀ (r c : Nat) (f : Option Nat) (M : gh_M), r ≤ 60 → ctS (fitN X u n p) r + c = ctS (fitN X u n p) 60 → orE (fsS (fitN X u n p) r) f = fsS (fitN X u n p) 60 → fs M0 M → (∀ M', fs M0 M' → Q (if nI w = 0 then nI (ctS (fitN X u n p) 60) else sp_inv (fsS (fitN X u n p) 60)) (gh_st M' 32 0 13 (nI 0))) → wl_X7_nerves_68 Q (r + 1) (nI u) (nI w) (nI rw0) (nI i0) (nI n) (nI c) (sp_inv f) (nI r) M := by
  have b1 := hk.hd.2.2.2.2.1
  have b2 := hk.hd.2.2.2.2.2.1
  intro r
  induction r with
  | zero =>
    intro c f M hr hc hfS hf hQ
    unfold wl_X7_nerves_68
    have := hQ M hf
    have ec : c = ctS (fitN X u n p) 60 := by
      have : ctS (fitN X u n p) 0 = 0 := rfl
      omega
    have ef : f = fsS (fitN X u n p) 60 := hfS
    rw [← ec, ← ef] at this
    unfold wp_X7_well
    refine ⟨fun _ => ⟨fun q => ?_, fun q => ?_⟩, fun h => absurd (nI_lt (by omega) (by omega)) h⟩
    · rintro M2 rfl; rw [if_neg q] at this; exact this
    · rintro M2 rfl; rw [if_pos q] at this; exact this
  | succ r ih =>
    intro c f M hr hc hfS hf hQ
    have hR := hR0.fs hf hn24
    unfold wl_X7_nerves_68
    refine ⟨fun h => absurd h (nI_nlt (by omega) (by omega)), fun _ => ?_⟩
    refine r_beg hR hX hk (fun M2 k2 t2 => ?_)
    unfold wp_X7_carAt
    simp (disch := omega) only [nI_add, pk_mul, nI_clamp, zb_in, true_and]
    rintro M3 rfl
    obtain ⟨t3, k3⟩ := t2.st (q := 1917 + 29 + 7 * u + 1) (i := 29 + 7 * u + 1) (v := nI (r + 1)) (by omega) (by omega) (fun c hc => by omega) b2
    have hh3 : hdk (upd X.1 (29 + 7 * u + 1) (nI (r + 1))) X.2 := hdk.up hk.hd (by omega) (fun c hc => by omega)
    refine ⟨n + 1, r_told_l (M0 := M0) (X := X) (p := p) hu b2 hn hrw hi0 ep n 0 _ _ true (by omega) (hf.tr (k2.tr k3)) t3 hh3 (fun M4 f4 => ?_)⟩
    have ec : ctS (fitN X u n p) (r + 1) = ctS (fitN X u n p) r + (if fitN X u n p (r + 1) = true then 1 else 0) := rfl
    have ef : fsS (fitN X u n p) (r + 1) = match fsS (fitN X u n p) r with
      | some a => some a
      | none => if fitN X u n p (r + 1) = true then some (r + 1) else none := rfl
    have eF : tlF X.2 u p n 0 (upd X.1 (29 + 7 * u + 1) (nI (r + 1))) = fitN X u n p (r + 1) := rfl
    rw [eF]
    by_cases q : fitN X u n p (r + 1) = true
    · rw [if_pos ⟨rfl, q⟩]
      simp only [z1, not_false_eq_true, t01, false_implies, true_and, and_true]
      rintro y rfl z rfl
      rw [nI_dec]
      rw [ec, if_pos q] at hc
      refine ih (c + 1) (some (r + 1)) M4 (by omega) (by omega) ?_ f4 hQ
      rw [← hfS, ef]
      cases fsS (fitN X u n p) r with
      | none => dsimp only; rw [if_pos q]; rfl
      | some a => rfl
    · rw [if_neg (fun z => q z.2)]
      simp only [z0, not_true_eq_false, t01, false_implies, true_and, and_true]
      rintro z rfl
      rw [nI_dec]
      rw [ec, if_neg q] at hc
      refine ih c f M4 (by omega) (by omega) ?_ f4 hQ
      rw [← hfS, ef]
      cases fsS (fitN X u n p) r with
      | none => dsimp only; rw [if_neg q]
      | some a => rfl
theorem OK_fin {M1 M2 M3 : gh_M} {S : SS} {v : Int32} (hC : CS M1 S) (hn : S.2.2.2.2.2.1.1 ≤ 24) (e2 : M2 = gh_st M1 0 0 9 v) (hR : RS M2 S) (hf : fs M2 M3) : OKn (gh_st M3 32 0 13 v) := by
  subst e2
  exact ⟨(S.1, S.2.1, (S.2.2.1.1, v), S.2.2.2), (hC.st09 v).fC (hf.fC.st (by omega)), (hR.fs hf hn).st13 v⟩
theorem L_nerves {a0 a1 a2 a3 a4 : Int32} {M : gh_M} {S : SS} (hC : CS M S) (hR : RS M S) : wp_X6_nerves a0 a1 a2 a3 a4 M (fun r1 M1 => wp_X7_nerves a0 a1 a2 a3 a4 M1 (fun r2 M2 => r1 = r2 ∧ OKn M2)) := by
  have hOK : OKn M := ⟨S, hC, hR⟩
  have hT := hC.2.2.2.2.2.2.1
  have hT2 := hR.2.2.2.2.2.1
  obtain ⟨e0, e1, e2, b0, b1, b2⟩ := hT.hd
  obtain ⟨f0, f1, f2⟩ := hT2.hd hT.ok
  unfold wp_X6_nerves wp_X7_nerves
  rcases ix a0 (ona S.2.2.2.2.1) (by omega) with ⟨u, hu, rfl⟩ | hb
  · refine c_isCy e2 hu (by omega) ?_
    simp only [z1, not_false_eq_true, t01, false_implies, true_and, and_true]
    rcases few a1 1 (by omega) with ⟨w, hw, rfl⟩ | ⟨hb, -⟩
    · refine w6y (nI_nlt (by omega) (by omega)) (nI_nlt hw (by omega)) ?_
      simp only [z1, not_false_eq_true, t01, false_implies, true_and, and_true]
      rcases few a2 7 (by omega) with ⟨r, hr7, rfl⟩ | ⟨hb, -⟩
      · refine c_rowy (by omega) ?_
        simp only [z1, not_false_eq_true, t01, false_implies, true_and, and_true]
        rcases zb_rng a4 1 12 (by omega) (by omega) with hb | hb | ⟨n, hn1, hn, rfl⟩
        · refine w6n (Or.inl hb) ?_
          simp only [z0, not_true_eq_false, t01, false_implies, true_and, and_true]
          refine r_isCy f2 hu (by omega) ?_
          simp only [z1, not_false_eq_true, t01, false_implies, true_and, and_true]
          refine w7y (nI_nlt (by omega) (by omega)) (nI_nlt hw (by omega)) ?_
          simp only [z1, not_false_eq_true, t01, false_implies, true_and, and_true]
          refine r_rowy (by omega) ?_
          simp only [z1, not_false_eq_true, t01, false_implies, true_and, and_true]
          refine w7n (Or.inl hb) ?_
          simp only [z0, not_true_eq_false, t01, false_implies, true_and, and_true]
          exact hOK
        · refine w6n (Or.inr hb.2) ?_
          simp only [z0, not_true_eq_false, t01, false_implies, true_and, and_true]
          refine r_isCy f2 hu (by omega) ?_
          simp only [z1, not_false_eq_true, t01, false_implies, true_and, and_true]
          refine w7y (nI_nlt (by omega) (by omega)) (nI_nlt hw (by omega)) ?_
          simp only [z1, not_false_eq_true, t01, false_implies, true_and, and_true]
          refine r_rowy (by omega) ?_
          simp only [z1, not_false_eq_true, t01, false_implies, true_and, and_true]
          refine w7n (Or.inr hb.2) ?_
          simp only [z0, not_true_eq_false, t01, false_implies, true_and, and_true]
          exact hOK
        · refine w6y (nI_nlt hn1 (by omega)) (nI_nlt hn (by omega)) ?_
          simp only [z1, not_false_eq_true, t01, false_implies, true_and, and_true]
          rw [nI_clamp (n := r) (by omega)]
          refine ⟨vp_in_nI (by omega) (by omega), ?_⟩
          rintro _ _ rfl
          cases hX : S.2.2.2.2.1 with
          | none => rw [hX] at hu; exact absurd hu (Nat.not_lt_zero _)
          | some X =>
            rw [hX] at e0 e1 e2 f0 f1 f2 b0 b1 b2 hu
            have hu' : u < X.2.1.2.2 := hu
            obtain ⟨hk, -⟩ := hC.trn hX
            -- the reference's way to the question of the row
            have ref : ∀ (M2 : gh_M) (A : Int32 → gh_M → Prop), (M2 33 0 2 = nI (ona (some X))) → wp_X7_wrongRow (nI r) a3 (nI n) M2 A → ∀ (r0 : Int32), wp_X7_isCar (nI u) M2 (fun r1 M2 => ((r1 = 0 → r0 = (-1000001 : Int32) ∧ OKn M2) ∧ (¬ r1 = 0 → wp_X7_in (nI w) (nI 0) (nI 1) M2 (fun r4 M5 => ((r4 = 0 → r0 = (-1000001 : Int32) ∧ OKn M5) ∧ (¬ r4 = 0 → wp_X7_isRow (nI r) M5 (fun r7 M8 => ((r7 = 0 → r0 = (-1000001 : Int32) ∧ OKn M8) ∧ (¬ r7 = 0 → wp_X7_in (nI n) (nI 1) (nI 12) M8 (fun r10 M11 => ((¬ r10 = 0 → wp_X7_wrongRow (nI r) a3 (nI n) M11 A) ∧ (r10 = 0 → r0 = (-1000001 : Int32) ∧ OKn M11)))))))))))) := by
              intro M2 A h2 hA B
              refine r_isCy h2 hu (by omega) ?_
              simp only [z1, not_false_eq_true, t01, false_implies, true_and, and_true]
              refine w7y (nI_nlt (by omega) (by omega)) (nI_nlt hw (by omega)) ?_
              simp only [z1, not_false_eq_true, t01, false_implies, true_and, and_true]
              refine r_rowy (by omega) ?_
              simp only [z1, not_false_eq_true, t01, false_implies, true_and, and_true]
              refine w7y (nI_nlt hn1 (by omega)) (nI_nlt hn (by omega)) ?_
              simp only [z1, not_false_eq_true, t01, false_implies, true_and, and_true]
              exact hA
            have f9 : ∀ v M2, M2 = gh_st M 0 0 9 v → RS M2 S ∧ cRow M2 S.1 ∧ M2 33 0 2 = nI (ona (some X)) := fun v M2 e => by
              have fr : fR M M2 := fun a b q => by rw [e, zb_kr _ _ _ _ _ (by omega)]
              exact ⟨hR.fR fr hC.n24, hC.2.1.mv (fun a b q => by rw [e, zb_kr _ _ _ _ _ (by omega)]), by rw [fr 33 0 (by omega)]; exact f2⟩
            refine c_find hC (by omega) (fun h9 => ?_) (fun k h9 hno => ?_) (fun k i0 n' h9 ea en hin => ?_)
            · simp only [z1, not_false_eq_true, t01, false_implies, true_and, and_true]
              unfold wp_X6_found
              intro M2 e
              obtain ⟨hR2, hc2, h2⟩ := f9 _ M2 e
              refine ref M2 _ h2 (r_wrong hc2 hR2 (by omega) (fun _ => ?_) (fun k' h9' => by rw [h9] at h9'; cases h9') (fun k' _ _ h9' => by rw [h9] at h9'; cases h9')) _
              exact ⟨fun z => absurd z (by decide), fun _ => ⟨rfl, OK_su' hC hR e rfl⟩⟩
            · simp only [show (nI 2 = 0) = False from eq_false (by decide), not_false_eq_true, t01, false_implies, true_and, and_true]
              unfold wp_X6_found
              intro M2 e
              obtain ⟨hR2, hc2, h2⟩ := f9 _ M2 e
              refine ref M2 _ h2 (r_wrong hc2 hR2 (by omega) (fun h9' => by rw [h9] at h9'; cases h9') (fun k' h9' _ => ?_) (fun k' i n h9' e1 e2 e3 => by rw [h9] at h9'; injection h9' with h9'; subst h9'; exact absurd ⟨i, n, e1, e2, e3⟩ hno)) _
              exact ⟨fun z => absurd z (by decide), fun _ => ⟨rfl, OK_su' hC hR e rfl⟩⟩
            · subst ea
              have hk40 := hC.2.1.le r k h9 (by omega)
              have : n = n' := zb_nI_inj en (by omega) (by omega)
              subst this
              simp only [z0, not_true_eq_false, t01, false_implies, true_and, and_true]
              refine ⟨vp_in_nI (by omega) (by omega), ?_⟩
              rintro _ _ rfl
              refine c_hear hC (by omega) h9 hin hn1 hn (fun M2 hC2 fr2 e24 e25 => ?_)
              refine ⟨61, c_nerves_l (M0 := M2) (w := w) (p := fun i => S.1.2.2 r (i0 + i)) hC2 hX hu' hk hn e24 e25 60 0 M2 (by omega) hC2 ft.refl (fun M3 hC3 f3 => ?_)⟩
              unfold wp_X6_fine
              intro M4 e4
              have fr4 : fR M M4 := fun a b q => by rw [e4, zb_kr _ _ _ _ _ (by omega), f3 a b (by omega), fr2 a b q]
              have hR4 := hR.fR fr4 hC.n24
              have hc4 : cRow M4 S.1 := hC3.2.1.mv (fun a b q => by rw [e4, zb_kr _ _ _ _ _ (by omega)])
              refine ref M4 _ (by rw [fr4 33 0 (by omega)]; exact f2) (r_wrong hc4 hR4 (by omega) (fun h9' => by rw [h9] at h9'; cases h9') (fun k' h9' hno => by rw [h9] at h9'; injection h9' with h9'; subst h9'; exact absurd ⟨i0, n, rfl, rfl, hin⟩ hno) (fun k' i n' h9' e1 e2 e3 => ?_)) _
              refine ⟨fun _ => ?_, fun z => absurd (by decide) z⟩
              have hrow := hR4.1 r (by omega)
              rw [h9] at hrow
              obtain ⟨s1, s2, s3⟩ := hrow
              refine ⟨61, r_nerves_l (M0 := M4) (w := w) (p := fun i => S.1.2.2 r (i0 + i)) hR4 hC.n24 hX hu' hk hn (by omega) (by omega) (fun i hi => ?_) 60 0 none M4 (by omega) (by omega) ?_ fs.refl (fun M5 k5 => ⟨rfl, OK_fin hC3 hC.n24 e4 hR4 k5⟩)⟩
              · rw [show 40 * r + i0 + i = 40 * r + (i0 + i) by omega]
                exact s3 _ (by omega)
              · unfold orE
                cases fsS (fitN X u n fun i => S.1.2.2 r (i0 + i)) 60 with
                | none => rfl
                | some a => rfl
      · refine c_rown hb ?_
        simp only [z0, not_true_eq_false, t01, false_implies, true_and, and_true]
        refine r_isCy f2 hu (by omega) ?_
        simp only [z1, not_false_eq_true, t01, false_implies, true_and, and_true]
        refine w7y (nI_nlt (by omega) (by omega)) (nI_nlt hw (by omega)) ?_
        simp only [z1, not_false_eq_true, t01, false_implies, true_and, and_true]
        refine r_rown hb ?_
        simp only [z0, not_true_eq_false, t01, false_implies, true_and, and_true]
        exact hOK
    · refine w6n hb ?_
      simp only [z0, not_true_eq_false, t01, false_implies, true_and, and_true]
      refine r_isCy f2 hu (by omega) ?_
      simp only [z1, not_false_eq_true, t01, false_implies, true_and, and_true]
      refine w7n hb ?_
      simp only [z0, not_true_eq_false, t01, false_implies, true_and, and_true]
      exact hOK
  · refine c_isCn e2 hb ?_
    simp only [z0, not_true_eq_false, t01, false_implies, true_and, and_true]
    refine r_isCn f2 hb ?_
    simp only [z0, not_true_eq_false, t01, false_implies, true_and, and_true]
    exact hOK
