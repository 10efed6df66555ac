-- DRAWN
def drK (k : Nat) : Nat := k * 16807 % 2147483647
theorem drK_lt (k : Nat) : drK k < 2 ^ 31 := Nat.lt_of_lt_of_le (Nat.mod_lt _ (by omega)) (by omega)
theorem drK_e {k : Nat} (h : k < 2 ^ 31) : (lN k * (16807 : Int64)) - (lN k * (16807 : Int64)) / (2147483647 : Int64) * (2147483647 : Int64) = lN (drK k) := by
  rw [show (16807 : Int64) = lN 16807 from rfl, show (2147483647 : Int64) = lN 2147483647 from rfl, lN_mul]
  exact pk_lRem (by omega) (by omega) (by omega)
theorem rem_i {k n : Nat} (hk : k < 2 ^ 31) (h0 : 0 < n) (hn : n < 2 ^ 31) : (lN k - lN k / (nI n).toInt64 * (nI n).toInt64).toInt32 = nI (k % n) := by
  rw [nI_l hn, pk_lRem (by omega) h0 (by omega), lN_i]
theorem l_ne {n : Nat} (h0 : 0 < n) (hn : n < 2 ^ 31) : ¬ (nI n).toInt64 = 0 := by
  rw [nI_l hn]
  intro e
  have := (lN_eq (a := n) (b := 0) hn (by omega)).mp e
  omega
def drS (h : HD) (k : Nat) (T : TT) : TT := if T (29 + 7 * (k % h.1.2.2) + 3) = nI 21 then sp_ag T (k % h.1.2.2) else if lg_cmp (lN k - lN k / (3 : Int64) * (3 : Int64)) (lN 0) = 0 then upd T (4 + 5 * (k % h.1.2.1) + 1) (nI (k % h.1.1)) else T
def drF (h : HD) : Nat → Nat → TT → TT
  | 0, _, T => T
  | r + 1, k, T => drF h r (drK k) (tk h (drS h (drK k) T))
theorem hdk.dr {T : TT} {h : HD} (g : hdk T h) (k : Nat) (h0 : 0 < h.1.2.1) : hdk (drS h k T) h := by
  have b1 := g.2.2.2.2.1
  unfold drS
  split
  · exact ((g.up (i := 29 + 7 * (k % h.1.2.2) + 3) (v := nI 20) (by omega) (fun c hc => by omega)).up (i := 29 + 7 * (k % h.1.2.2) + 4) (v := nI 0) (by omega) (fun c hc => by omega)).up (i := 29 + 7 * (k % h.1.2.2) + 6) (v := nI 0) (by omega) (fun c hc => by omega)
  · split
    · have : k % h.1.2.1 < h.1.2.1 := Nat.mod_lt _ h0
      exact g.up (by omega) (fun c hc => by omega)
    · exact g
theorem c_draw {M : gh_M} {T : TT} {h : HD} {k : Nat} (hz : ctr M 28 (T, h)) (hh : hdk T h) (h4 : 0 < h.1.1) (h1 : 0 < h.1.2.1) (h2 : 0 < h.1.2.2) (hk : k < 2 ^ 31) {Q : gh_M → Prop} (hQ : ∀ M', ft 28 M M' → ctr M' 28 (drS h k T, h) → Q M') : wp_X2_draw (lN k) M Q := by
  obtain ⟨k0, k1, k2, b0, b1, b2, k3⟩ := id hh
  have hd := hz.1.cd
  have e0 : M 6 28 0 = nI h.1.1 := hd.1.trans k0
  have e1 : M 6 28 1 = nI h.1.2.1 := hd.2.1.trans k1
  have e2 : M 6 28 2 = nI h.1.2.2 := hd.2.2.1.trans k2
  have c1 : k % h.1.2.2 < h.1.2.2 := Nat.mod_lt _ h2
  have c2 : k % h.1.2.1 < h.1.2.1 := Nat.mod_lt _ h1
  have c3 : k % h.1.1 < h.1.1 := Nat.mod_lt _ h4
  have nz : ∀ n : Nat, 0 < n → n < 2 ^ 31 → ¬ nI n = 0 := fun n q1 q2 e => by
    have := zb_nI_inj (b := 0) e q2 (by omega)
    omega
  unfold wp_X2_draw
  rw [e0, e1, e2, rem_i hk h2 (by omega), rem_i hk h1 (by omega), rem_i hk h4 (by omega)]
  refine ⟨fun z => absurd z (nz _ h2 (by omega)), fun _ => ⟨fun z => absurd z (nz _ h1 (by omega)), fun _ => ⟨fun _ => ⟨l_ne h2 (by omega), ?_⟩, fun z => absurd z (nz _ h4 (by omega))⟩⟩⟩
  rintro _ rfl
  rw [nI_clamp (n := k % h.1.2.2) (by omega), hd.c3 c1, nI_clamp (n := k % h.1.2.1) (by omega)]
  unfold drS at hQ
  refine ⟨vp_in_nI (by omega) (by omega), fun q => ⟨by decide, fun q2 => ?_, fun q2 => ⟨l_ne h1 (by omega), l_ne h4 (by omega), vp_in_nI (by omega) (by omega), ?_⟩⟩, fun q => ?_⟩
  · rw [if_neg q, if_neg q2] at hQ
    exact hQ M ft.refl hz
  · rw [if_neg q, if_pos q2] at hQ
    rintro _ rfl
    obtain ⟨z3, g3⟩ := y_re hz (hz.1.K b1 (f := 1) rfl c2 (by omega) (nI (k % h.1.1)))
    exact hQ _ g3 z3
  · rw [if_pos q] at hQ
    exact c_ag b1 b2 b0 c1 q hz.1 (fun M' hz' => by
      obtain ⟨z3, g3⟩ := y_re hz hz'
      exact hQ _ g3 z3)
def drR (X : TR) (w : Nat) (T : TT) : Int32 := if nI w = 0 then bx_sum (fun c => T (29 + 7 * c + 5)) X.2.1.2.2 - scr0 X else bx_sum (fun c => T (29 + 7 * c + 4)) X.2.1.2.2
theorem c_drawn_l {M0 : gh_M} {S : SS} {X : TR} {N w : Nat} (hC0 : CS M0 S) (hX : S.2.2.2.2.1 = some X) (hk : trOK X) (hN : N ≤ 60) {Q : Int32 → gh_M → Prop} :
    ∀ (r i k : Nat) (T : TT) (M : gh_M), i + r = N → k < 2 ^ 31 → ft 28 M0 M → ctr M 28 (T, X.2) → hdk T X.2 → (∀ M', CS M' S → ft 28 M0 M' → Q (drR X w (drF X.2 r k T)) M') → wl_X2_nightsByDraws_15 0 Q (r + 1) (nI N) (nI w) (lN k) (nI i) M := by
  have b2 := hk.hd.2.2.2.2.2.1
  intro r
  induction r with
  | zero =>
    intro i k T M hi hk31 hf hz hh hQ
    have : i = N := by omega
    subst this
    unfold wl_X2_nightsByDraws_15
    have hC := cs_zf hC0 hf.ff hz
    have := hQ M hC hf
    unfold drF drR at this
    refine ⟨fun _ => ⟨fun q => ?_, fun q => ?_⟩, fun h => absurd (Int32.le_refl _) h⟩
    · rw [if_neg q] at this
      exact c_fea hz.1.cd hh.2.2.1 b2 this
    · rw [if_pos q] at this
      exact c_scr hz.1.cd hh.2.2.1 b2 (c_scr (hC.trn hX).2.1.cd hk.hd.2.2.1 b2 this)
  | succ r ih =>
    intro i k T M hi hk31 hf hz hh hQ
    unfold wl_X2_nightsByDraws_15
    refine ⟨fun h => absurd h (nI_ge (by omega) (by omega)), fun _ => ⟨by decide, ?_⟩⟩
    rw [drK_e hk31]
    rintro _ rfl
    have o1 := hk.2.1
    refine c_draw hz hh (by omega) (by have := hk.2.2.1; omega) (by have := hk.2.2.2.1; omega) (drK_lt k) (fun M2 g2 z2 => ?_)
    have hh2 := hh.dr (drK k) (by have := hk.2.2.1; omega)
    refine y_tick (by omega) hh2 z2 (fun M3 g3 z3 => ?_)
    rintro _ rfl
    rw [nI_add]
    exact ih (i + 1) (drK k) _ M3 (by omega) (drK_lt k) (hf.tr (g2.tr g3)) z3 hh2.tk hQ
theorem r_ag {M : gh_M} {X : TR} {T : TT} {c : Nat} (t : trd M X T) (hc : c < 6) (b2 : X.2.1.2.2 ≤ 6) {Q : gh_M → Prop} (hQ : ∀ M', fs M M' → trd M' X (sp_ag T c) → Q M') : wp_X7_goesAgain (nI 1917) (nI c) M Q := by
  unfold wp_X7_goesAgain wp_X7_carAt
  simp (disch := omega) only [nI_add, pk_mul, nI_clamp, zb_in, true_and]
  rintro _ rfl _ rfl _ rfl
  obtain ⟨t1, k1⟩ := t.st (q := 1917 + 29 + 7 * c + 3) (i := 29 + 7 * c + 3) (v := nI 20) (by omega) (by omega) (fun c hc => by omega) b2
  obtain ⟨t2, k2⟩ := t1.st (q := 1917 + 29 + 7 * c + 4) (i := 29 + 7 * c + 4) (v := nI 0) (by omega) (by omega) (fun c hc => by omega) b2
  obtain ⟨t3, k3⟩ := t2.st (q := 1917 + 29 + 7 * c + 6) (i := 29 + 7 * c + 6) (v := nI 0) (by omega) (by omega) (fun c hc => by omega) b2
  exact hQ _ ((k1.tr k2).tr k3) t3
theorem r_drawn_l {M0 : gh_M} {S : SS} {X : TR} {N w : Nat} (hR0 : RS M0 S) (hn24 : S.2.2.2.2.2.1.1 ≤ 24) (hX : S.2.2.2.2.1 = some X) (hk : trOK X) (hN : N ≤ 60) {Q : Int32 → gh_M → Prop} :
    ∀ (r i k : Nat) (T : TT) (M : gh_M), i + r = N → k < 2 ^ 31 → fs M0 M → trd M X T → hdk T X.2 → (∀ M', fs M0 M' → Q (drR X w (drF X.2 r k T)) M') → wl_X7_drawn_53 Q (r + 1) (nI N) (nI w) (lN k) (nI i) M := by
  have b0 := hk.hd.2.2.2.1
  have b1 := hk.hd.2.2.2.2.1
  have b2 := hk.hd.2.2.2.2.2.1
  have o1 := hk.2.1
  have o2 := hk.2.2.1
  have o3 := hk.2.2.2.1
  intro r
  induction r with
  | zero =>
    intro i k T M hi hk31 hf t hh hQ
    have : i = N := by omega
    subst this
    unfold wl_X7_drawn_53
    have := hQ M hf
    unfold drF drR at this
    refine ⟨fun _ => ⟨fun q => ?_, fun q => ?_⟩, fun h => absurd (Int32.le_refl _) h⟩
    · rw [if_neg q] at this
      exact r_sumOf (x := 1917) (f := 4) (by omega) t.1 hh.2.2.1 b2 (by omega) this
    · rw [if_pos q] at this
      rw [t.2.1.2]
      unfold h0X
      rw [Int32.add_comm, ← Int32.sub_eq_add_neg]
      exact this
  | succ r ih =>
    intro i k T M hi hk31 hf t hh hQ
    have hR := hR0.fs hf hn24
    have hr := hR.trn hX
    have e0 : M 33 0 0 = nI X.2.1.1 := (hr.at0 (i := 0) (by omega) rfl).trans hk.hd.1
    have e1 : M 33 0 1 = nI X.2.1.2.1 := (hr.at0 (i := 1) (by omega) rfl).trans hk.hd.2.1
    have e2 : M 33 0 2 = nI X.2.1.2.2 := (hr.at0 (i := 2) (by omega) rfl).trans hk.hd.2.2.1
    have hkk := drK_lt k
    have c1 : drK k % X.2.1.2.2 < X.2.1.2.2 := Nat.mod_lt _ (by omega)
    have c2 : drK k % X.2.1.2.1 < X.2.1.2.1 := Nat.mod_lt _ (by omega)
    unfold wl_X7_drawn_53
    refine ⟨fun h => absurd h (nI_ge (by omega) (by omega)), fun _ => ⟨by decide, ?_⟩⟩
    rw [drK_e hk31]
    rintro _ rfl
    rw [nI_clamp (n := 2) (by omega), e2, rem_i hkk (by omega) (by omega)]
    refine ⟨vp_in_nI (by omega) (by omega), l_ne (by omega) (by omega), ?_⟩
    rintro _ rfl
    have nxt : ∀ M2 T2, fs M M2 → trd M2 X T2 → T2 = drS X.2 (drK k) T → wp_X7_tickAt (nI 1917) M2 (fun M32 => ∀ y6_33, y6_33 = (nI i + (nI 1)) → wl_X7_drawn_53 Q (r + 1) (nI N) (nI w) (lN (drK k)) y6_33 M32) := by
      rintro M2 T2 f2 t2 rfl
      have hh2 := hh.dr (drK k) (by omega)
      refine r_tk1 hh2 t2 (fun M3 f3 t3 => ?_)
      rintro _ rfl
      rw [nI_add]
      exact ih (i + 1) (drK k) _ M3 (by omega) (drK_lt k) (hf.tr (f2.tr f3)) t3 hh2.tk hQ
    unfold wp_X7_carAt
    dsimp only
    rw [r_ca, nI_add (1917 + 29 + 7 * (drK k % X.2.1.2.2)) 3, nI_clamp (n := 1917 + 29 + 7 * (drK k % X.2.1.2.2) + 3) (by omega), t.1.at1 (i := 29 + 7 * (drK k % X.2.1.2.2) + 3) (by omega) (by omega)]
    refine ⟨vp_in_nI (by omega) (by omega), fun q => ⟨by decide, fun q2 => ?_, fun q2 => ?_⟩, fun q => ?_⟩
    · exact nxt M T fs.refl t (by unfold drS; rw [if_neg q, if_neg q2])
    · rw [nI_clamp (n := 1) (by omega), e1, rem_i hkk (by omega) (by omega)]
      refine ⟨vp_in_nI (by omega) (by omega), l_ne (by omega) (by omega), ?_⟩
      unfold wp_X7_trickAt
      dsimp only
      rw [nI_clamp (n := 0) (by omega), e0, rem_i hkk (by omega) (by omega), r_ta, nI_add (1917 + 4 + 5 * (drK k % X.2.1.2.1)) 1, nI_clamp (n := 1917 + 4 + 5 * (drK k % X.2.1.2.1) + 1) (by omega)]
      refine ⟨vp_in_nI (by omega) (by omega), l_ne (by omega) (by omega), vp_in_nI (by omega) (by omega), ?_⟩
      rintro _ rfl
      obtain ⟨t3, k3⟩ := t.st (q := 1917 + 4 + 5 * (drK k % X.2.1.2.1) + 1) (i := 4 + 5 * (drK k % X.2.1.2.1) + 1) (v := nI (drK k % X.2.1.1)) (by omega) (by omega) (fun c hc => by omega) b2
      exact nxt _ _ k3 t3 (by unfold drS; rw [if_neg q, if_pos q2])
    · exact r_ag t (by omega) b2 (fun M2 f2 t2 => nxt M2 _ f2 t2 (by unfold drS; rw [if_pos q]))
theorem L_drawn {a0 a1 a2 : Int32} {M : gh_M} {S : SS} (hC : CS M S) (hR : RS M S) : wp_X6_drawn a0 a1 a2 M (fun r1 M1 => wp_X7_drawn a0 a1 a2 M1 (fun r2 M2 => r1 = r2 ∧ OKn M2)) := by
  have hOK : OKn M := ⟨S, hC, hR⟩
  have hT := hC.2.2.2.2.2.2.1
  have hT2 := hR.2.2.2.2.2.1
  obtain ⟨e0, e1, e2, b0, b1, b2⟩ := hT.hd
  obtain ⟨f0, f1, f2⟩ := hT2.hd hT.ok
  unfold wp_X6_drawn wp_X7_drawn
  cases hX : S.2.2.2.2.1 with
  | none =>
    rw [hX] at e2 f0
    refine c_hasn e2 ?_
    simp only [z0, not_true_eq_false, t01, false_implies, true_and, and_true]
    refine r_hasn f0 ?_
    simp only [z0, not_true_eq_false, t01, false_implies, true_and, and_true]
    exact hOK
  | some X =>
    rw [hX] at e0 e1 e2 f0 f1 f2 b0 b1 b2
    obtain ⟨hk, hz, h19⟩ := hC.trn hX
    have o1 : 4 ≤ X.2.1.1 := hk.2.1
    have o3 := hk.2.2.2.1
    have p0 : 0 < onc (some X) := Nat.lt_of_lt_of_le (by omega) o1
    refine c_hasy e2 (by exact o3) (by omega) ?_
    simp only [z1, not_false_eq_true, t01, false_implies, true_and, and_true]
    rcases few a0 60 (by omega) with ⟨N, hN, rfl⟩ | ⟨hb, -⟩
    · refine w6y (nI_nlt (by omega) (by omega)) (nI_nlt hN (by omega)) ?_
      simp only [z1, not_false_eq_true, t01, false_implies, true_and, and_true]
      rw [show (999999 : Int32) = nI 999999 from rfl]
      rcases zb_rng a1 1 999999 (by omega) (by omega) with hb | hb | ⟨k, hk1, hk9, rfl⟩
      · refine w6n (Or.inl hb) ?_
        simp only [z0, not_true_eq_false, t01, false_implies, true_and, and_true]
        refine r_hasy f0 p0 (by omega) ?_
        simp only [z1, not_false_eq_true, t01, false_implies, true_and, and_true]
        refine w7y (nI_nlt (by omega) (by omega)) (nI_nlt hN (by omega)) ?_
        simp only [z1, not_false_eq_true, t01, false_implies, true_and, and_true]
        refine w7n (Or.inl hb) ?_
        simp only [z0, not_true_eq_false, t01, false_implies, true_and, and_true]
        exact hOK
      · refine w6n (Or.inr hb.2) ?_
        simp only [z0, not_true_eq_false, t01, false_implies, true_and, and_true]
        refine r_hasy f0 p0 (by omega) ?_
        simp only [z1, not_false_eq_true, t01, false_implies, true_and, and_true]
        refine w7y (nI_nlt (by omega) (by omega)) (nI_nlt hN (by omega)) ?_
        simp only [z1, not_false_eq_true, t01, false_implies, true_and, and_true]
        refine w7n (Or.inr hb.2) ?_
        simp only [z0, not_true_eq_false, t01, false_implies, true_and, and_true]
        exact hOK
      · refine w6y (nI_nlt hk1 (by omega)) (nI_nlt hk9 (by omega)) ?_
        simp only [z1, not_false_eq_true, t01, false_implies, true_and, and_true]
        rcases few a2 1 (by omega) with ⟨w, hw, rfl⟩ | ⟨hb, -⟩
        · refine w6y (nI_nlt (by omega) (by omega)) (nI_nlt hw (by omega)) ?_
          simp only [z1, not_false_eq_true, t01, false_implies, true_and, and_true]
          unfold wp_X2_nightsByDraws
          refine y_copy hC hX (fun M2 g2 z2 => ?_)
          rintro _ rfl
          rw [nI_l (by omega)]
          refine ⟨N + 1, c_drawn_l (M0 := M) (w := w) hC hX hk hN N 0 k X.1 M2 (by omega) (by omega) g2 z2 hk.hd (fun M3 hC3 f3 => ?_)⟩
          have fr := f3.fR
          have hR3 := hR.fR fr hC.n24
          refine r_hasy (fr 33 0 (by omega) ▸ f0) p0 (by omega) ?_
          simp only [z1, not_false_eq_true, t01, false_implies, true_and, and_true]
          refine w7y (nI_nlt (by omega) (by omega)) (nI_nlt hN (by omega)) ?_
          simp only [z1, not_false_eq_true, t01, false_implies, true_and, and_true]
          refine w7y (nI_nlt hk1 (by omega)) (nI_nlt hk9 (by omega)) ?_
          simp only [z1, not_false_eq_true, t01, false_implies, true_and, and_true]
          refine w7y (nI_nlt (by omega) (by omega)) (nI_nlt hw (by omega)) ?_
          simp only [z1, not_false_eq_true, t01, false_implies, true_and, and_true]
          refine r_beg hR3 hX hk (fun M4 k4 t4 => ?_)
          rintro _ rfl
          exact ⟨N + 1, r_drawn_l (M0 := M3) (w := w) hR3 hC.n24 hX hk hN N 0 k X.1 M4 (by omega) (by omega) k4 t4 hk.hd (fun M5 k5 => ⟨rfl, S, hC3.fC k5.fC, hR3.fs k5 hC.n24⟩)⟩
        · refine w6n hb ?_
          simp only [z0, not_true_eq_false, t01, false_implies, true_and, and_true]
          refine r_hasy f0 p0 (by omega) ?_
          simp only [z1, not_false_eq_true, t01, false_implies, true_and, and_true]
          refine w7y (nI_nlt (by omega) (by omega)) (nI_nlt hN (by omega)) ?_
          simp only [z1, not_false_eq_true, t01, false_implies, true_and, and_true]
          refine w7y (nI_nlt hk1 (by omega)) (nI_nlt hk9 (by omega)) ?_
          simp only [z1, not_false_eq_true, t01, false_implies, true_and, and_true]
          refine w7n hb ?_
          simp only [z0, not_true_eq_false, t01, false_implies, true_and, and_true]
          exact hOK
    · refine w6n hb ?_
      simp only [z0, not_true_eq_false, t01, false_implies, true_and, and_true]
      refine r_hasy f0 p0 (by omega) ?_
      simp only [z1, not_false_eq_true, t01, false_implies, true_and, and_true]
      refine w7n hb ?_
      simp only [z0, not_true_eq_false, t01, false_implies, true_and, and_true]
      exact hOK
