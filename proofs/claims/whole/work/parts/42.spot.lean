-- SPOT, BEARS, CALM
theorem hdk.up {T : TT} {h : HD} {i : Nat} {v : Int32} (g : hdk T h) (h3 : 3 ≤ i) (hs : ∀ c, c < 6 → i ≠ 29 + 7 * c + 2) : hdk (upd T i v) h := sp_hd.up g h3 (fun c hc => hs c (Nat.lt_of_lt_of_le hc g.2.2.2.2.2.1))
/-- all screams of the train X after n ticks from T -/
def scr (X : TR) (n : Nat) (T : TT) : Int32 := bx_sum (fun c => run X.2 n T (29 + 7 * c + 5)) X.2.1.2.2
def spF (X : TR) (u N : Nat) : Nat → Nat → Int32 → Int32 → Int32 × Int32
  | 0, _, a, b => (a, b)
  | r + 1, v, a, b => if scr X N (upd X.1 (4 + 5 * u + 1) (nI v)) ≤ b then spF X u N r (v + 1) a b else spF X u N r (v + 1) (nI v) (scr X N (upd X.1 (4 + 5 * u + 1) (nI v)))
theorem c_spot_l {M0 : gh_M} {S : SS} {X : TR} {u N w : Nat} (hX : S.2.2.2.2.1 = some X) (hu : u < X.2.1.2.1) (hk : trOK X) (hN : N ≤ 60) {Q : Int32 → gh_M → Prop} :
    ∀ (r v : Nat) (a b : Int32) (M : gh_M), v + r = X.2.1.1 → CS M S → fR M0 M → (∀ M', CS M' S → fR M0 M' → Q (if nI w = 0 then (spF X u N r v a b).1 else (spF X u N r v a b).2) M') → wl_X2_mostAt_9 0 Q (r + 1) (nI u) (nI N) (nI w) a b (nI v) M := by
  have hh := hk.hd
  have b0 := hk.hd.2.2.2.1
  have b1 := hk.hd.2.2.2.2.1
  have b2 := hk.hd.2.2.2.2.2.1
  intro r
  induction r with
  | zero =>
    intro v a b M hv hC hf hQ
    unfold wl_X2_mostAt_9
    rw [show M 6 0 0 = nI X.2.1.1 from (hC.trn hX).2.1.cd.1.trans hh.1]
    have : v = X.2.1.1 := by omega
    subst this
    refine ⟨fun _ => ?_, fun h => absurd (Int32.le_refl _) h⟩
    have := hQ M hC hf
    refine ⟨fun g => ?_, fun g => ?_⟩
    · rw [if_neg g] at this; exact this
    · rw [if_pos g] at this; exact this
  | succ r ih =>
    intro v a b M hv hC hf hQ
    unfold wl_X2_mostAt_9
    rw [show M 6 0 0 = nI X.2.1.1 from (hC.trn hX).2.1.cd.1.trans hh.1]
    refine ⟨fun h => absurd h (nI_ge (by omega) (by omega)), fun _ => ?_⟩
    refine z_copy hC hX (fun M2 g2 z2 => ⟨vp_in_nI (by omega) (by omega), ?_⟩)
    rw [nI_clamp (by omega)]
    rintro M3 rfl
    obtain ⟨z3, g3⟩ := z_re z2 (z2.1.K b1 (f := 1) rfl hu (by omega) (nI v))
    have hh3 : hdk (upd X.1 (4 + 5 * u + 1) (nI v)) X.2 := hdk.up hh (by omega) (fun c hc => by omega)
    refine z_for hN (by have := hk.2.1; omega) hh3 z3 (fun M4 T4 g4 z4 e4 => ?_)
    have hC4 := cs_zf hC ((g2.tr g3).tr g4) z4
    have f4 := hf.tr ((g2.tr g3).tr g4).fR
    have t2 : T4 2 = nI X.2.1.2.2 := (e4 2 (by omega)).trans (hh3.run N).2.2.1
    have es : bx_sum (fun c => T4 (29 + 7 * c + 5)) X.2.1.2.2 = scr X N (upd X.1 (4 + 5 * u + 1) (nI v)) := scr_e e4
    refine c_scr z4.1.cd t2 b2 ?_
    rw [es]
    refine ⟨fun h => ?_, fun h => ?_⟩
    · rintro y rfl
      rw [nI_add]
      refine ih (v + 1) a b M4 (by omega) hC4 f4 (fun M' h1 h2 => ?_)
      have := hQ M' h1 h2
      unfold spF at this
      rw [if_pos h] at this
      exact this
    · refine c_scr z4.1.cd t2 b2 ?_
      rw [es]
      rintro y rfl
      rw [nI_add]
      refine ih (v + 1) _ _ M4 (by omega) hC4 f4 (fun M' h1 h2 => ?_)
      have := hQ M' h1 h2
      unfold spF at this
      rw [if_neg h] at this
      exact this
theorem r_spot_l {M0 : gh_M} {S : SS} {X : TR} {u N w : Nat} (hR0 : RS M0 S) (hn24 : S.2.2.2.2.2.1.1 ≤ 24) (hX : S.2.2.2.2.1 = some X) (hu : u < X.2.1.2.1) (hk : trOK X) (hN : N ≤ 60) {Q : Int32 → gh_M → Prop} :
    ∀ (r v : Nat) (a b : Int32) (M : gh_M), v + r = X.2.1.1 → fs M0 M → (∀ M', fs M0 M' → Q (if nI w = 0 then (spF X u N r v a b).1 else (spF X u N r v a b).2) M') → wl_X7_spot_39 Q (r + 1) (nI u) (nI N) (nI w) a b (nI v) M := by
  have hh := hk.hd
  have b0 := hk.hd.2.2.2.1
  have b1 := hk.hd.2.2.2.2.1
  have b2 := hk.hd.2.2.2.2.2.1
  intro r
  induction r with
  | zero =>
    intro v a b M hv hf hQ
    have hR := hR0.fs hf hn24
    unfold wl_X7_spot_39
    rw [nI_clamp (by omega), show M 33 0 0 = nI X.2.1.1 from ((hR.trn hX).at0 (i := 0) (by omega) rfl).trans hh.1]
    have : v = X.2.1.1 := by omega
    subst this
    refine ⟨vp_in_nI (by omega) (by omega), fun _ => ?_, fun h => absurd (Int32.le_refl _) h⟩
    have := hQ M hf
    refine ⟨fun g => ?_, fun g => ?_⟩
    · rw [if_neg g] at this; exact this
    · rw [if_pos g] at this; exact this
  | succ r ih =>
    intro v a b M hv hf hQ
    have hR := hR0.fs hf hn24
    unfold wl_X7_spot_39
    rw [nI_clamp (n := 0) (by omega), show M 33 0 0 = nI X.2.1.1 from ((hR.trn hX).at0 (i := 0) (by omega) rfl).trans hh.1]
    refine ⟨vp_in_nI (by omega) (by omega), fun h => absurd h (nI_ge (by omega) (by omega)), fun _ => ?_⟩
    refine r_beg hR hX hk (fun M2 k2 t2 => ?_)
    unfold wp_X7_trickAt
    simp (disch := omega) only [nI_add, pk_mul, nI_clamp, zb_in, true_and]
    rintro M3 rfl
    obtain ⟨t3, k3⟩ := t2.st (q := 1917 + 4 + 5 * u + 1) (i := 4 + 5 * u + 1) (v := nI v) (by omega) (by omega) (fun c hc => by omega) b2
    have hh3 : hdk (upd X.1 (4 + 5 * u + 1) (nI v)) X.2 := hdk.up hh (by omega) (fun c hc => by omega)
    refine r_run hN hh3 t3 (fun M4 k4 t4 => ?_)
    have f4 := hf.tr ((k2.tr k3).tr k4)
    refine r_sumOf (x := 1917) (f := 5) (by omega) t4.1 (hh3.run N).2.2.1 b2 (by omega) ?_
    have es : bx_sum (fun c => run X.2 N (upd X.1 (4 + 5 * u + 1) (nI v)) (29 + 7 * c + 5)) X.2.1.2.2 = scr X N (upd X.1 (4 + 5 * u + 1) (nI v)) := rfl
    rw [es]
    refine ⟨fun h => ⟨fun _ => ?_, fun z => absurd h z⟩, fun h => ⟨fun z => absurd z h, fun _ => ?_⟩⟩
    · rintro y rfl
      refine ih (v + 1) a b M4 (by omega) f4 (fun M' h1 => ?_)
      have := hQ M' h1
      unfold spF at this
      rw [if_pos h] at this
      exact this
    · rintro y rfl
      refine ih (v + 1) _ _ M4 (by omega) f4 (fun M' h1 => ?_)
      have := hQ M' h1
      unfold spF at this
      rw [if_neg h] at this
      exact this
theorem L_spot {a0 a1 a2 : Int32} {M : gh_M} {S : SS} (hC : CS M S) (hR : RS M S) : wp_X6_spot a0 a1 a2 M (fun r1 M1 => wp_X7_spot a0 a1 a2 M1 (fun r2 M2 => r1 = r2 ∧ OKn M2)) := by
  have hOK : OKn M := ⟨S, hC, hR⟩
  have hT := hC.2.2.2.2.2.2.1
  have hT2 := hR.2.2.2.2.2.1
  obtain ⟨e0, e1, e2, b0, b1, b2⟩ := hT.hd
  obtain ⟨f0, f1, f2⟩ := hT2.hd hT.ok
  unfold wp_X6_spot wp_X7_spot
  rcases ix a0 (ont S.2.2.2.2.1) (by omega) with ⟨u, hu, rfl⟩ | hb
  · refine c_isTy e1 hu (by omega) ?_
    simp only [z1, not_false_eq_true, t01, false_implies, true_and, and_true]
    rcases zb_rng a1 1 50 (by omega) (by omega) with hb | hb | ⟨N, hN1, hN, rfl⟩
    · refine w6n (Or.inl hb) ?_
      simp only [z0, not_true_eq_false, t01, false_implies, true_and, and_true]
      refine r_isTy f1 hu (by omega) ?_
      simp only [z1, not_false_eq_true, t01, false_implies, true_and, and_true]
      refine w7n (Or.inl hb) ?_
      simp only [z0, not_true_eq_false, t01, false_implies, true_and, and_true]
      exact hOK
    · refine w6n (Or.inr hb.2) ?_
      simp only [z0, not_true_eq_false, t01, false_implies, true_and, and_true]
      refine r_isTy f1 hu (by omega) ?_
      simp only [z1, not_false_eq_true, t01, false_implies, true_and, and_true]
      refine w7n (Or.inr hb.2) ?_
      simp only [z0, not_true_eq_false, t01, false_implies, true_and, and_true]
      exact hOK
    · refine w6y (nI_nlt hN1 (by omega)) (nI_nlt hN (by omega)) ?_
      simp only [z1, not_false_eq_true, t01, false_implies, true_and, and_true]
      rcases few a2 1 (by omega) with ⟨w, hw, rfl⟩ | ⟨hb, -⟩
      · refine w6y (nI_nlt (by omega) (by omega)) (nI_nlt hw (by omega)) ?_
        simp only [z1, not_false_eq_true, t01, false_implies, true_and, and_true]
        cases hX : S.2.2.2.2.1 with
        | none => rw [hX] at hu; exact absurd hu (Nat.not_lt_zero _)
        | some X =>
          rw [hX] at e0 e1 e2 f0 f1 f2 b0 b1 b2 hu
          have hu' : u < X.2.1.2.1 := hu
          obtain ⟨hk, -⟩ := hC.trn hX
          refine ⟨X.2.1.1 + 1, c_spot_l (M0 := M) (w := w) hX hu' hk (by omega) X.2.1.1 0 (nI 0) (-1) M (by omega) hC fR.refl (fun M3 hC3 fr => ?_)⟩
          have hR3 := hR.fR fr hC.n24
          refine r_isTy (fr 33 0 (by omega) ▸ f1) hu (by omega) ?_
          simp only [z1, not_false_eq_true, t01, false_implies, true_and, and_true]
          refine w7y (nI_nlt hN1 (by omega)) (nI_nlt hN (by omega)) ?_
          simp only [z1, not_false_eq_true, t01, false_implies, true_and, and_true]
          refine w7y (nI_nlt (by omega) (by omega)) (nI_nlt hw (by omega)) ?_
          simp only [z1, not_false_eq_true, t01, false_implies, true_and, and_true]
          exact ⟨X.2.1.1 + 1, r_spot_l (M0 := M3) (w := w) hR3 hC.n24 hX hu' hk (by omega) X.2.1.1 0 (nI 0) (-1) M3 (by omega) fs.refl (fun M4 k4 => ⟨rfl, S, hC3.fC k4.fC, hR3.fs k4 hC.n24⟩)⟩
      · refine w6n hb ?_
        simp only [z0, not_true_eq_false, t01, false_implies, true_and, and_true]
        refine r_isTy f1 hu (by omega) ?_
        simp only [z1, not_false_eq_true, t01, false_implies, true_and, and_true]
        refine w7y (nI_nlt hN1 (by omega)) (nI_nlt hN (by omega)) ?_
        simp only [z1, not_false_eq_true, t01, false_implies, true_and, and_true]
        refine w7n hb ?_
        simp only [z0, not_true_eq_false, t01, false_implies, true_and, and_true]
        exact hOK
  · refine c_isTn e1 hb ?_
    simp only [z0, not_true_eq_false, t01, false_implies, true_and, and_true]
    refine r_isTn f1 hb ?_
    simp only [z0, not_true_eq_false, t01, false_implies, true_and, and_true]
    exact hOK
-- BEARS
def beF (X : TR) (u N : Nat) : Nat → Nat → Int32
  | 0, _ => -1000000
  | r + 1, v => if run X.2 N (upd X.1 (29 + 7 * u + 1) (nI v)) (29 + 7 * u + 5) = X.1 (29 + 7 * u + 5) then nI v else beF X u N r (v + 1)
theorem i_sub0 {a b : Int32} : a - b = 0 ↔ a = b := by
  refine ⟨fun h => ?_, fun h => by rw [h, Int32.sub_self]⟩
  have := Int32.sub_add_cancel a b
  rw [h, Int32.zero_add] at this
  exact this.symm
theorem c_bears_l {M0 : gh_M} {S : SS} {X : TR} {u N : Nat} (hX : S.2.2.2.2.1 = some X) (hu : u < X.2.1.2.2) (hk : trOK X) (hN : N ≤ 60) {Q : Int32 → gh_M → Prop} :
    ∀ (r v : Nat) (M : gh_M), v + r = 61 → CS M S → fR M0 M → (∀ M', CS M' S → fR M0 M' → Q (beF X u N r v) M') → wl_X2_leastNerve_3 0 Q (r + 1) (nI u) (nI N) (nI v) M := by
  have hh := hk.hd
  have b1 := hk.hd.2.2.2.2.1
  have b2 := hk.hd.2.2.2.2.2.1
  intro r
  induction r with
  | zero =>
    intro v M hv hC hf hQ
    unfold wl_X2_leastNerve_3
    have : v = 61 := by omega
    subst this
    exact ⟨fun _ => hQ M hC hf, fun h => absurd (nI_lt (by omega) (by omega)) h⟩
  | succ r ih =>
    intro v M hv hC hf hQ
    unfold wl_X2_leastNerve_3
    refine ⟨fun h => absurd h (nI_nlt (by omega) (by omega)), fun _ => ?_⟩
    refine z_copy hC hX (fun M2 g2 z2 => ⟨vp_in_nI (by omega) (by omega), ?_⟩)
    rw [nI_clamp (by omega)]
    rintro M3 rfl
    obtain ⟨z3, g3⟩ := z_re z2 (z2.1.C1 b1 (c := u) (nI v))
    have hh3 : hdk (upd X.1 (29 + 7 * u + 1) (nI v)) X.2 := hdk.up hh (by omega) (fun c hc => by omega)
    refine z_for hN (by have := hk.2.1; omega) hh3 z3 (fun M4 T4 g4 z4 e4 => ?_)
    have hC4 := cs_zf hC ((g2.tr g3).tr g4) z4
    have f4 := hf.tr ((g2.tr g3).tr g4).fR
    rw [show M4 17 28 u = run X.2 N (upd X.1 (29 + 7 * u + 1) (nI v)) (29 + 7 * u + 5) from (z4.1.cd.c5 hu).trans (e4 _ (by omega)), (hC4.trn hX).2.1.cd.c5 hu]
    refine ⟨vp_in_nI (by omega) (by omega), vp_in_nI (by omega) (by omega), fun h => ?_, fun h => ?_⟩
    · rintro y rfl
      rw [nI_add]
      refine ih (v + 1) M4 (by omega) hC4 f4 (fun M' h1 h2 => ?_)
      have := hQ M' h1 h2
      unfold beF at this
      rw [if_neg h] at this
      exact this
    · have := hQ M4 hC4 f4
      unfold beF at this
      rw [if_pos h] at this
      exact this
theorem r_bears_l {M0 : gh_M} {S : SS} {X : TR} {u N : Nat} (hR0 : RS M0 S) (hn24 : S.2.2.2.2.2.1.1 ≤ 24) (hX : S.2.2.2.2.1 = some X) (hu : u < X.2.1.2.2) (hk : trOK X) (hN : N ≤ 60) {Q : Int32 → gh_M → Prop} :
    ∀ (r v : Nat) (M : gh_M), v + r = 61 → fs M0 M → (∀ M', fs M0 M' → Q (beF X u N r v) M') → wl_X7_bears_23 Q (r + 1) (nI u) (nI N) (nI v) M := by
  have hh := hk.hd
  have b1 := hk.hd.2.2.2.2.1
  have b2 := hk.hd.2.2.2.2.2.1
  intro r
  induction r with
  | zero =>
    intro v M hv hf hQ
    unfold wl_X7_bears_23
    have : v = 61 := by omega
    subst this
    exact ⟨fun _ => hQ M hf, fun h => absurd (nI_lt (by omega) (by omega)) h⟩
  | succ r ih =>
    intro v M hv hf hQ
    have hR := hR0.fs hf hn24
    unfold wl_X7_bears_23
    refine ⟨fun h => absurd h (nI_nlt (by omega) (by omega)), fun _ => ?_⟩
    refine r_beg hR hX hk (fun M2 k2 t2 => ?_)
    unfold wp_X7_carAt
    simp (disch := omega) only [nI_add, pk_mul, nI_clamp, zb_in, true_and]
    rintro M3 rfl
    obtain ⟨t3, k3⟩ := t2.st (q := 1917 + 29 + 7 * u + 1) (i := 29 + 7 * u + 1) (v := nI v) (by omega) (by omega) (fun c hc => by omega) b2
    have hh3 : hdk (upd X.1 (29 + 7 * u + 1) (nI v)) X.2 := hdk.up hh (by omega) (fun c hc => by omega)
    refine r_run hN hh3 t3 (fun M4 k4 t4 => ?_)
    have f4 := hf.tr ((k2.tr k3).tr k4)
    have e36 : (M4 36 0 u = 0) ↔ run X.2 N (upd X.1 (29 + 7 * u + 1) (nI v)) (29 + 7 * u + 5) = X.1 (29 + 7 * u + 5) := by
      rw [t4.2.1.1 u (by omega)]; exact i_sub0
    rw [e36]
    refine ⟨fun h => ?_, fun h => ?_⟩
    · rintro y rfl
      refine ih (v + 1) M4 (by omega) f4 (fun M' h1 => ?_)
      have := hQ M' h1
      unfold beF at this
      rw [if_neg h] at this
      exact this
    · have := hQ M4 f4
      unfold beF at this
      rw [if_pos h] at this
      exact this
theorem L_bears {a0 a1 : Int32} {M : gh_M} {S : SS} (hC : CS M S) (hR : RS M S) : wp_X6_bears a0 a1 M (fun r1 M1 => wp_X7_bears a0 a1 M1 (fun r2 M2 => r1 = r2 ∧ OKn M2)) := by
  have hOK : OKn M := ⟨S, hC, hR⟩
  have hT := hC.2.2.2.2.2.2.1
  have hT2 := hR.2.2.2.2.2.1
  obtain ⟨e0, e1, e2, b0, b1, b2⟩ := hT.hd
  obtain ⟨f0, f1, f2⟩ := hT2.hd hT.ok
  unfold wp_X6_bears wp_X7_bears
  rcases ix a0 (ona S.2.2.2.2.1) (by omega) with ⟨u, hu, rfl⟩ | hb
  · refine c_isCy e2 hu (by omega) ?_
    simp only [z1, not_false_eq_true, t01, false_implies, true_and, and_true]
    rcases zb_rng a1 1 50 (by omega) (by omega) with hb | hb | ⟨N, hN1, hN, rfl⟩
    · refine w6n (Or.inl hb) ?_
      simp only [z0, not_true_eq_false, t01, false_implies, true_and, and_true]
      refine r_isCy f2 hu (by omega) ?_
      simp only [z1, not_false_eq_true, t01, false_implies, true_and, and_true]
      refine w7n (Or.inl hb) ?_
      simp only [z0, not_true_eq_false, t01, false_implies, true_and, and_true]
      exact hOK
    · refine w6n (Or.inr hb.2) ?_
      simp only [z0, not_true_eq_false, t01, false_implies, true_and, and_true]
      refine r_isCy f2 hu (by omega) ?_
      simp only [z1, not_false_eq_true, t01, false_implies, true_and, and_true]
      refine w7n (Or.inr hb.2) ?_
      simp only [z0, not_true_eq_false, t01, false_implies, true_and, and_true]
      exact hOK
    · refine w6y (nI_nlt hN1 (by omega)) (nI_nlt hN (by omega)) ?_
      simp only [z1, not_false_eq_true, t01, false_implies, true_and, and_true]
      cases hX : S.2.2.2.2.1 with
      | none => rw [hX] at hu; exact absurd hu (Nat.not_lt_zero _)
      | some X =>
        rw [hX] at e0 e1 e2 f0 f1 f2 b0 b1 b2 hu
        have hu' : u < X.2.1.2.2 := hu
        obtain ⟨hk, -⟩ := hC.trn hX
        refine ⟨61, c_bears_l (M0 := M) hX hu' hk (by omega) 60 1 M (by omega) hC fR.refl (fun M3 hC3 fr => ?_)⟩
        have hR3 := hR.fR fr hC.n24
        refine r_isCy (fr 33 0 (by omega) ▸ f2) hu (by omega) ?_
        simp only [z1, not_false_eq_true, t01, false_implies, true_and, and_true]
        refine w7y (nI_nlt hN1 (by omega)) (nI_nlt hN (by omega)) ?_
        simp only [z1, not_false_eq_true, t01, false_implies, true_and, and_true]
        exact ⟨61, r_bears_l (M0 := M3) hR3 hC.n24 hX hu' hk (by omega) 60 1 M3 (by omega) fs.refl (fun M4 k4 => ⟨rfl, S, hC3.fC k4.fC, hR3.fs k4 hC.n24⟩)⟩
  · refine c_isCn e2 hb ?_
    simp only [z0, not_true_eq_false, t01, false_implies, true_and, and_true]
    refine r_isCn f2 hb ?_
    simp only [z0, not_true_eq_false, t01, false_implies, true_and, and_true]
    exact hOK
