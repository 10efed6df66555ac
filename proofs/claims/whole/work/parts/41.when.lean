-- WHEN, OVER, SPOT, BEARS
def whn (T : TT) (c how : Nat) (s0 : Int32) : Bool := if how = 0 then !decide (T (29 + 7 * c + 3) = nI 20) else if how = 1 then !decide (T (29 + 7 * c + 5) ≤ s0) else decide (T (29 + 7 * c + 3) = nI 21)
def whF (h : HD) (p : TT → Bool) : Nat → Nat → TT → Int32
  | 0, _, _ => -1000000
  | r + 1, n, T => if p T = true then nI n else whF h p r (n + 1) (tk h T)
theorem c_hasCome {M : gh_M} {T : TT} {nt na u how : Nat} {s0 : Int32} (hd : cd M 28 T nt na) (hu : u < na) (ha : na ≤ 6) (hh : how ≤ 2) {Q : Int32 → gh_M → Prop} (hq : Q (if whn T u how s0 = true then nI 1 else nI 0) M) : wp_X2_hasCome (nI u) (nI how) s0 M Q := by
  unfold wp_X2_hasCome
  simp (disch := omega) only [nI_clamp, zb_in, true_and, hd.c3, hd.c5, nI_eq]
  unfold whn at hq
  refine ⟨fun h => ⟨fun g => ?_, fun g => ?_⟩, fun h => ⟨fun h2 => ⟨fun g => ?_, fun g => ?_⟩, fun h2 => ⟨fun g => ?_, fun g => ?_⟩⟩⟩
  · rw [if_pos h, g] at hq; simpa using hq
  · rw [if_pos h] at hq; simpa [g] using hq
  · rw [if_neg h, if_pos h2] at hq; simpa [g] using hq
  · rw [if_neg h, if_pos h2] at hq; simpa [g] using hq
  · rw [if_neg h, if_neg h2] at hq; simpa [g] using hq
  · rw [if_neg h, if_neg h2, g] at hq; simpa using hq
theorem c_when_l {M0 : gh_M} {S : SS} {X : TR} {u how : Nat} (hX : S.2.2.2.2.1 = some X) (hu : u < X.2.1.2.2) (hk : trOK X) (hh : how ≤ 2) {Q : Int32 → gh_M → Prop} :
    ∀ (r n : Nat) (M : gh_M) (T : TT), n + r = 61 → CS M S → fR M0 M → ctr M 28 (T, X.2) → hdk T X.2 → (∀ M', CS M' S → fR M0 M' → Q (whF X.2 (fun T => whn T u how (X.1 (29 + 7 * u + 5))) r n T) M') → wl_X2_firstTime_11 0 Q (r + 1) (nI u) (nI how) (nI n) M := by
  have b2 := hk.hd.2.2.2.2.2.1
  intro r
  induction r with
  | zero =>
    intro n M T hn hC hf hz hh2 hQ
    have : n = 61 := by omega
    subst this
    unfold wl_X2_firstTime_11
    exact ⟨fun _ => hQ M hC hf, fun h => absurd (nI_lt (by omega) (by omega)) h⟩
  | succ r ih =>
    intro n M T hn hC hf hz hh2 hQ
    unfold wl_X2_firstTime_11
    refine ⟨fun h => absurd h (nI_nlt (by omega) (by omega)), fun _ => ⟨vp_in_nI (by omega) (by omega), ?_⟩⟩
    rw [nI_clamp (by omega), (hC.trn hX).2.1.cd.c5 hu]
    refine c_hasCome hz.1.cd hu b2 hh ?_
    unfold whF at hQ
    by_cases q : whn T u how (X.1 (29 + 7 * u + 5)) = true
    · rw [if_pos q]
      simp only [z1, not_false_eq_true, t01, false_implies, true_and, and_true]
      have := hQ M hC hf
      rw [if_pos q] at this
      exact this
    · rw [if_neg q]
      simp only [z0, not_true_eq_false, t01, false_implies, true_and, and_true]
      refine z_tick (by have := hk.2.1; omega) hh2 hz (fun M2 g2 z2 => ?_)
      rintro y rfl
      rw [nI_add]
      refine ih (n + 1) M2 _ (by omega) (cs_zf hC g2 z2) (hf.tr g2.fR) z2 hh2.tk (fun M' h1 h2 => ?_)
      have := hQ M' h1 h2
      rw [if_neg q] at this
      exact this
theorem r_when_l {M0 : gh_M} {S : SS} {X : TR} {u how s : Nat} (hX : S.2.2.2.2.1 = some X) (hu : u < X.2.1.2.2) (hk : trOK X) (hh : how ≤ 2) (hs : s ≤ 20000) (es : X.1 (29 + 7 * u + 5) = nI s) {Q : Int32 → gh_M → Prop} :
    ∀ (r n : Nat) (M : gh_M) (T : TT), n + r = 61 → fs M0 M → trd M X T → hdk T X.2 → (∃ e, e ≤ 20 * n ∧ T (29 + 7 * u + 5) = nI (s + e)) → (∀ M', fs M0 M' → Q (whF X.2 (fun T => whn T u how (X.1 (29 + 7 * u + 5))) r n T) M') → wl_X7_when_26 Q (r + 1) (nI u) (nI how) (nI n) M := by
  have b0 := hk.hd.2.2.2.1
  have b1 := hk.hd.2.2.2.2.1
  have b2 := hk.hd.2.2.2.2.2.1
  intro r
  induction r with
  | zero =>
    intro n M T hn hf t hh2 he hQ
    have : n = 61 := by omega
    subst this
    unfold wl_X7_when_26
    exact ⟨fun _ => hQ M hf, fun h => absurd (nI_lt (by omega) (by omega)) h⟩
  | succ r ih =>
    intro n M T hn hf t hh2 he hQ
    obtain ⟨e, he, et⟩ := he
    unfold wl_X7_when_26
    refine ⟨fun h => absurd h (nI_nlt (by omega) (by omega)), fun _ => ?_⟩
    unfold wp_X7_carAt
    simp (disch := omega) only [nI_add, pk_mul, nI_clamp, zb_in, true_and]
    rintro y rfl
    rw [t.1.at1 (i := 29 + 7 * u + 3) (by omega) (by omega), t.2.1.1 u (by omega), et]
    have e0 : nI (s + e) - S0X X u = nI e := by
      show nI (s + e) - X.1 (29 + 7 * u + 5) = nI e
      rw [es, pk_sub (by omega)]
      congr 1; omega
    rw [e0]
    have nxt : ¬ whn T u how (X.1 (29 + 7 * u + 5)) = true → wp_X7_tickAt (nI 1917) M (fun M18 => ∀ y3_19, y3_19 = nI (n + 1) → wl_X7_when_26 Q (r + 1) (nI u) (nI how) y3_19 M18) := by
      intro q
      refine r_tk1 hh2 t (fun M2 f2 t2 => ?_)
      rintro y rfl
      refine ih (n + 1) M2 _ (by omega) (hf.tr f2) t2 hh2.tk ?_ (fun M' h1 => ?_)
      · obtain ⟨-, gs⟩ := gr_tk (pc := X.2.2) (rk := idk) (nc := X.2.1.1) (T := T) b1 b2 b0
        obtain ⟨d, hd, ed⟩ := gs u hu
        refine ⟨e + d, by omega, ?_⟩
        unfold tk sp_tk
        rw [pk_un (by omega), ed, et, nI_add, Nat.add_assoc]
      · have := hQ M' h1
        unfold whF at this
        rw [if_neg q] at this
        exact this
    have fin : whn T u how (X.1 (29 + 7 * u + 5)) = true → Q (nI n) M := by
      intro q
      have := hQ M hf
      unfold whF at this
      rw [if_pos q] at this
      exact this
    unfold whn at nxt fin
    rw [et, es] at nxt fin
    have z0' : (nI how = 0) ↔ how = 0 := nI_eq (b := 0) (by omega) (by omega)
    have z1' : (nI how = nI 1) ↔ how = 1 := nI_eq (by omega) (by omega)
    rw [z0', z1']
    refine ⟨fun h => ⟨fun h2 => ⟨fun g => nxt ?_, fun g => fin ?_⟩, fun h2 => ⟨fun g => nxt ?_, fun g => fin ?_⟩⟩, fun h => ⟨fun g => nxt ?_, fun g => fin ?_⟩⟩
    · rw [if_neg h, if_neg h2]; simpa using g
    · rw [if_neg h, if_neg h2]; simpa using g
    · rw [if_neg h, if_pos h2]
      have : e ≤ 0 := (nI_leI (by omega) (by omega)).mp g
      have : nI (s + e) ≤ nI s := nI_le (by omega) (by omega)
      simpa using this
    · rw [if_neg h, if_pos h2]
      have : ¬ nI (s + e) ≤ nI s := fun q => g (show nI e ≤ nI 0 from nI_le (by have := (nI_leI (by omega) (by omega)).mp q; omega) (by omega))
      simpa using this
    · rw [if_pos h]; simpa using g
    · rw [if_pos h]; simpa using g
theorem trOK.scr {X : TR} (h : trOK X) {u : Nat} (hu : u < X.2.1.2.2) : ∃ s, s ≤ 20000 ∧ X.1 (29 + 7 * u + 5) = nI s := by
  obtain ⟨h1, h2, h4, h5, k, hk, h6, h7⟩ := h
  obtain ⟨s, hs, es⟩ := h7 u hu
  exact ⟨s, by omega, es⟩
theorem L_when {a0 a1 : Int32} {M : gh_M} {S : SS} (hC : CS M S) (hR : RS M S) : wp_X6_when a0 a1 M (fun r1 M1 => wp_X7_when a0 a1 M1 (fun r2 M2 => r1 = r2 ∧ OKn M2)) := by
  have hOK : OKn M := ⟨S, hC, hR⟩
  have hT := hC.2.2.2.2.2.2.1
  have hT2 := hR.2.2.2.2.2.1
  obtain ⟨e0, e1, e2, b0, b1, b2⟩ := hT.hd
  obtain ⟨f0, f1, f2⟩ := hT2.hd hT.ok
  unfold wp_X6_when wp_X7_when
  rcases ix a0 (ona S.2.2.2.2.1) (by omega) with ⟨u, hu, rfl⟩ | hb
  · refine c_isCy e2 hu (by omega) ?_
    simp only [z1, not_false_eq_true, t01, false_implies, true_and, and_true]
    rcases few a1 2 (by omega) with ⟨w, hw, rfl⟩ | ⟨hb, -⟩
    · refine w6y (nI_nlt (by omega) (by omega)) (nI_nlt hw (by omega)) ?_
      simp only [z1, not_false_eq_true, t01, false_implies, true_and, and_true]
      cases hX : S.2.2.2.2.1 with
      | none => rw [hX] at hu; exact absurd hu (Nat.not_lt_zero _)
      | some X =>
        rw [hX] at e0 e1 e2 f0 f1 f2 b0 b1 b2 hu
        have hu' : u < X.2.1.2.2 := hu
        obtain ⟨hk, -⟩ := hC.trn hX
        obtain ⟨s, hs, es⟩ := hk.scr hu'
        unfold wp_X2_firstTime
        refine z_copy hC hX (fun M2 g2 z2 => ⟨62, c_when_l (M0 := M) hX hu' hk hw 61 0 M2 X.1 (by omega) (cs_zf hC g2 z2) g2.fR z2 hk.hd (fun M3 hC3 fr => ?_)⟩)
        have hR3 := hR.fR fr hC.n24
        refine r_isCy (fr 33 0 (by omega) ▸ f2) hu (by omega) ?_
        simp only [z1, not_false_eq_true, t01, false_implies, true_and, and_true]
        refine w7y (nI_nlt (by omega) (by omega)) (nI_nlt hw (by omega)) ?_
        simp only [z1, not_false_eq_true, t01, false_implies, true_and, and_true]
        refine r_beg hR3 hX hk (fun M4 k4 t4 => ⟨62, r_when_l (M0 := M3) hX hu' hk hw hs es 61 0 M4 X.1 (by omega) k4 t4 hk.hd ⟨0, by omega, es⟩ (fun M5 k5 => ⟨rfl, S, hC3.fC k5.fC, hR3.fs k5 hC.n24⟩)⟩)
    · refine w6n hb ?_
      simp only [z0, not_true_eq_false, t01, false_implies, true_and, and_true]
      refine r_isCy f2 hu (by omega) ?_
      simp only [z1, not_false_eq_true, t01, false_implies, true_and, and_true]
      refine w7n hb ?_
      simp only [z0, not_true_eq_false, t01, false_implies, true_and, and_true]
      exact hOK
  · refine c_isCn e2 hb ?_
    simp only [z0, not_true_eq_false, t01, false_implies, true_and, and_true]
    refine r_isCn f2 hb ?_
    simp only [z0, not_true_eq_false, t01, false_implies, true_and, and_true]
    exact hOK
-- OVER
theorem al_dec : ∀ n, n < 7 → ∀ m, m < 2 ^ n → (nI m = (nI 1 <<< (nI n &&& 31)) - nI 1 ↔ pop m = n) := by decide +kernel
theorem sbit_all {p : Nat → Bool} {n : Nat} (hn : n ≤ 6) : sbit p n = (nI 1 <<< (nI n &&& 31)) - nI 1 ↔ ∀ k, k < n → p k = true := by
  obtain ⟨m, h1, h2, h3⟩ := sbit_nat p n hn
  rw [h2, al_dec n (by omega) m h1, h3]
  exact fb_ct_all
theorem r_allOut {M : gh_M} {X : TR} {T : TT} (hk : trOK X) (h2 : M 33 0 2 = nI X.2.1.2.2) (t : trd M X T) (hh : hdk T X.2) {Q : Int32 → gh_M → Prop} (hQ : Q (if sp_ao T X.2.1.2.2 = true then nI 1 else nI 0) M) : wp_X7_allOut M Q := by
  have b2 := hk.hd.2.2.2.2.2.1
  unfold wp_X7_allOut
  refine r_that (x := 1917) (how := 3) (by omega) t.1 hh.2.2.1 b2 (by omega) ?_
  rw [nI_clamp (by omega), h2]
  have key : sbit (sp_th T 3) X.2.1.2.2 = (nI 1 <<< (nI X.2.1.2.2 &&& 31)) - nI 1 ↔ sp_ao T X.2.1.2.2 = true := by
    rw [sbit_all b2, sp_ao_iff]
    refine ⟨fun h c hc => ?_, fun h c hc => ?_⟩
    · have := h c hc
      unfold sp_th at this
      simpa using this
    · unfold sp_th
      simpa using h c hc
  refine ⟨vp_in_nI (by omega) (by omega), fun h => ?_, fun h => ?_⟩
  · rw [if_neg (fun q => h (key.mpr q))] at hQ; exact hQ
  · rw [if_pos (key.mp h)] at hQ; exact hQ
theorem c_over_l {M0 : gh_M} {S : SS} {X : TR} (hX : S.2.2.2.2.1 = some X) (hk : trOK X) {Q : Int32 → gh_M → Prop} :
    ∀ (r n : Nat) (M : gh_M) (T : TT), n + r = 61 → CS M S → fR M0 M → ctr M 28 (T, X.2) → hdk T X.2 → (∀ M', CS M' S → fR M0 M' → Q (whF X.2 (fun T => sp_ao T X.2.1.2.2) r n T) M') → wl_X2_firstAllOut_10 0 Q (r + 1) (nI n) M := by
  have b2 := hk.hd.2.2.2.2.2.1
  intro r
  induction r with
  | zero =>
    intro n M T hn hC hf hz hh2 hQ
    have : n = 61 := by omega
    subst this
    unfold wl_X2_firstAllOut_10
    exact ⟨fun _ => hQ M hC hf, fun h => absurd (nI_lt (by omega) (by omega)) h⟩
  | succ r ih =>
    intro n M T hn hC hf hz hh2 hQ
    unfold wl_X2_firstAllOut_10
    refine ⟨fun h => absurd h (nI_nlt (by omega) (by omega)), fun _ => ?_⟩
    refine c_allOut hz.1.cd hh2.2.2.1 b2 ?_
    unfold whF at hQ
    by_cases q : sp_ao T X.2.1.2.2 = true
    · rw [if_pos q]
      simp only [z1, not_false_eq_true, t01, false_implies, true_and, and_true]
      have := hQ M hC hf
      rw [if_pos q] at this
      exact this
    · rw [if_neg q]
      simp only [z0, not_true_eq_false, t01, false_implies, true_and, and_true]
      refine z_tick (by have := hk.2.1; omega) hh2 hz (fun M2 g2 z2 => ?_)
      rintro y rfl
      rw [nI_add]
      refine ih (n + 1) M2 _ (by omega) (cs_zf hC g2 z2) (hf.tr g2.fR) z2 hh2.tk (fun M' h1 h2 => ?_)
      have := hQ M' h1 h2
      rw [if_neg q] at this
      exact this
theorem r_over_l {M0 : gh_M} {S : SS} {X : TR} (hX : S.2.2.2.2.1 = some X) (hk : trOK X) (h2 : M0 33 0 2 = nI X.2.1.2.2) {Q : Int32 → gh_M → Prop} :
    ∀ (r n : Nat) (M : gh_M) (T : TT), n + r = 61 → fs M0 M → trd M X T → hdk T X.2 → (∀ M', fs M0 M' → Q (whF X.2 (fun T => sp_ao T X.2.1.2.2) r n T) M') → wl_X7_over_16 Q (r + 1) (nI n) M := by
  intro r
  induction r with
  | zero =>
    intro n M T hn hf t hh2 hQ
    have : n = 61 := by omega
    subst this
    unfold wl_X7_over_16
    exact ⟨fun _ => hQ M hf, fun h => absurd (nI_lt (by omega) (by omega)) h⟩
  | succ r ih =>
    intro n M T hn hf t hh2 hQ
    unfold wl_X7_over_16
    refine ⟨fun h => absurd h (nI_nlt (by omega) (by omega)), fun _ => ?_⟩
    refine r_allOut hk ((hf 33 0 2 (by omega) (by omega) (by omega)).trans h2) t hh2 ?_
    unfold whF at hQ
    by_cases q : sp_ao T X.2.1.2.2 = true
    · rw [if_pos q]
      simp only [z1, not_false_eq_true, t01, false_implies, true_and, and_true]
      have := hQ M hf
      rw [if_pos q] at this
      exact this
    · rw [if_neg q]
      simp only [z0, not_true_eq_false, t01, false_implies, true_and, and_true]
      refine r_tk1 hh2 t (fun M2 f2 t2 => ?_)
      rintro y rfl
      rw [nI_add]
      refine ih (n + 1) M2 _ (by omega) (hf.tr f2) t2 hh2.tk (fun M' h1 => ?_)
      have := hQ M' h1
      rw [if_neg q] at this
      exact this
theorem L_over {M : gh_M} {S : SS} (hC : CS M S) (hR : RS M S) : wp_X6_over M (fun r1 M1 => wp_X7_over M1 (fun r2 M2 => r1 = r2 ∧ OKn M2)) := by
  have hOK : OKn M := ⟨S, hC, hR⟩
  have hT := hC.2.2.2.2.2.2.1
  have hT2 := hR.2.2.2.2.2.1
  obtain ⟨e0, e1, e2, b0, b1, b2⟩ := hT.hd
  obtain ⟨f0, f1, f2⟩ := hT2.hd hT.ok
  unfold wp_X6_over wp_X7_over
  cases hX : S.2.2.2.2.1 with
  | none =>
    rw [hX] at e2 f0
    refine c_hasn e2 ?_
    simp only [z0, not_true_eq_false, t01, false_implies, true_and, and_true]
    refine r_hasn f0 ?_
    simp only [z0, not_true_eq_false, t01, false_implies, true_and, and_true]
    exact hOK
  | some X =>
    rw [hX] at e0 e1 e2 f0 f1 f2 b0 b1 b2
    obtain ⟨hk, -⟩ := hC.trn hX
    have o1 : 4 ≤ X.2.1.1 := hk.2.1
    have o3 := hk.2.2.2.1
    have p0 : 0 < onc (some X) := Nat.lt_of_lt_of_le (by omega) o1
    refine c_hasy e2 (by exact o3) (by omega) ?_
    simp only [z1, not_false_eq_true, t01, false_implies, true_and, and_true]
    unfold wp_X2_firstAllOut
    refine z_copy hC hX (fun M2 g2 z2 => ⟨62, c_over_l (M0 := M) hX hk 61 0 M2 X.1 (by omega) (cs_zf hC g2 z2) g2.fR z2 hk.hd (fun M3 hC3 fr => ?_)⟩)
    have hR3 := hR.fR fr hC.n24
    refine r_hasy (fr 33 0 (by omega) ▸ f0) p0 (by omega) ?_
    simp only [z1, not_false_eq_true, t01, false_implies, true_and, and_true]
    refine r_beg hR3 hX hk (fun M4 k4 t4 => ⟨62, r_over_l (M0 := M3) hX hk (fr 33 0 (by omega) ▸ f2) 61 0 M4 X.1 (by omega) k4 t4 hk.hd (fun M5 k5 => ⟨rfl, S, hC3.fC k5.fC, hR3.fs k5 hC.n24⟩)⟩)
