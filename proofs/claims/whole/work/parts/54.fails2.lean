-- FAILS: the reference
theorem r_eu {M : gh_M} {Q : Int64 → gh_M → Prop} {w num den : Nat} : ∀ (n a b : Nat), b ≤ a → 0 < a → a < 2 ^ 31 → a * b < 2 ^ n → Q (if nI w = 0 then lN num / lN (Nat.gcd a b) else lN den / lN (Nat.gcd a b)) M → wl_X7_fails_231 Q (n + 2) (nI w) (lN num) (lN den) (lN a) (lN b) M := by
  have fin : ∀ a, 0 < a → a < 2 ^ 31 → Q (if nI w = 0 then lN num / lN a else lN den / lN a) M → ((¬ nI w = 0 → (¬ lN a = 0 ∧ Q (lN den / lN a) M)) ∧ (nI w = 0 → (¬ lN a = 0 ∧ Q (lN num / lN a) M))) := by
    intro a h0 ha hQ
    have gn : ¬ lN a = 0 := fun e => by
      have := (lN_eq (a := a) (b := 0) (by omega) (by omega)).mp e
      omega
    refine ⟨fun q => ⟨gn, ?_⟩, fun q => ⟨gn, ?_⟩⟩
    · rw [if_neg q] at hQ; exact hQ
    · rw [if_pos q] at hQ; exact hQ
  intro n
  induction n with
  | zero =>
    intro a b hba h0 ha hab hQ
    unfold wl_X7_fails_231
    rw [lg_cmp_eq, lN_eq (a := b) (b := 0) (by omega) (by omega)]
    have hb : b = 0 := by
      have : a * b = 0 := by simpa using hab
      rcases Nat.mul_eq_zero.mp this with q | q <;> omega
    subst hb
    rw [Nat.gcd_zero_right] at hQ
    exact ⟨fun _ => fin a h0 ha hQ, fun z => absurd rfl z⟩
  | succ n ih =>
    intro a b hba h0 ha hab hQ
    unfold wl_X7_fails_231
    rw [lg_cmp_eq, lN_eq (a := b) (b := 0) (by omega) (by omega)]
    refine ⟨fun z => ?_, fun z => ⟨fun e => z ((lN_eq (a := b) (b := 0) (by omega) (by omega)).mp e), ?_⟩⟩
    · subst z
      rw [Nat.gcd_zero_right] at hQ
      exact fin a h0 ha hQ
    · rw [pk_lRem (by omega) (by omega) (by omega)]
      rintro _ rfl
      have hb : 0 < b := by omega
      have := Nat.mod_lt a hb
      exact ih b (a % b) (by omega) hb (by omega) (eu_half hb hba hab) (gcd_st ▸ hQ)
theorem r_gcd {M : gh_M} {Q : Int64 → gh_M → Prop} {w num den : Nat} (hb : den ≤ 100000) (hnd : num ≤ den) (h0 : 0 < den) (hQ : Q (faR w num den) M) : wl_X7_fails_231 Q 37 (nI w) (lN num) (lN den) (lN num) (lN den) M := by
  unfold wl_X7_fails_231
  rw [lg_cmp_eq, lN_eq (a := den) (b := 0) (by omega) (by omega)]
  refine ⟨fun z => by omega, fun z => ⟨fun e => z ((lN_eq (a := den) (b := 0) (by omega) (by omega)).mp e), ?_⟩⟩
  rw [pk_lRem (by omega) (by omega) (by omega)]
  rintro _ rfl
  have := Nat.mod_lt num h0
  unfold faR at hQ
  exact r_eu 34 den (num % den) (by omega) h0 (by omega) (eu0 hb h0) (gcd_st ▸ hQ)
theorem hit_e {X : TR} {u N m : Nat} (hk : trOK X) (hu : u < X.2.1.2.2) (hN : N ≤ 60) : (run X.2 N (sp_sw X.1 (nI m) X.2.1.2.1) (29 + 7 * u + 5) - S0X X u ≤ 0) ↔ ¬ hitF X u N m = true := by
  have b0 := hk.hd.2.2.2.1
  have b1 := hk.hd.2.2.2.2.1
  have b2 := hk.hd.2.2.2.2.2.1
  obtain ⟨s, hs, es⟩ := hk.scr hu
  obtain ⟨e, he, ee⟩ := run_gr (h := X.2) hu b0 b1 b2 N (sp_sw X.1 (nI m) X.2.1.2.1)
  have es' : sp_sw X.1 (nI m) X.2.1.2.1 (29 + 7 * u + 5) = nI s := by
    rw [sp_sw_at X.1 (nI m) _ X.2.1.2.1 (fun v hv => by omega)]; exact es
  have er : run X.2 N (sp_sw X.1 (nI m) X.2.1.2.1) (29 + 7 * u + 5) = nI (s + e) := by rw [ee, es', nI_add]
  unfold hitF
  rw [er, es]
  show nI (s + e) - X.1 (29 + 7 * u + 5) ≤ nI 0 ↔ _
  rw [es, pk_sub (by omega), nI_leI (by omega) (by omega)]
  have : (!decide (nI (s + e) ≤ nI s)) = true ↔ ¬ (s + e ≤ s) := by
    rw [← nI_leI (a := s + e) (b := s) (by omega) (by omega)]
    simp
  rw [this]
  omega
theorem r_prW_l {M : gh_M} {nt p s m : Nat} (hn : nt ≤ 5) (hs : s < 32) (hm : m < 32) (hp : p < 11) {Q : Int64 → gh_M → Prop} {K : Int32 → Int32 → Int32 → Int32 → Int32 → Int64 → Int64 → Int32 → gh_M → Prop} {u N w : Nat} {x6 x8 : Int64} (e1 : M 33 0 1 = nI nt)
    (hQ : wp_X7_beginTry M (fun M34 => wp_X7_switchAll (nI m) M34 (fun M36 => wp_X7_goOn (nI N) M36 (fun M38 => (vp_in (nI u) 6 ∧ (((M38 36 0 (nI u).toNatClampNeg) ≤ 0 → ∀ y6_41, y6_41 = (x6 + (lN 0)) → ∀ y10_42, y10_42 = (nI m + (nI 1)) → K (nI u) (nI N) (nI p) (nI w) (nI s) y6_41 x8 y10_42 M38) ∧ (¬ (M38 36 0 (nI u).toNatClampNeg) ≤ 0 → ∀ y6_43, y6_43 = (x6 + lN (prW p s m nt)) → ∀ y10_44, y10_44 = (nI m + (nI 1)) → K (nI u) (nI N) (nI p) (nI w) (nI s) y6_43 x8 y10_44 M38))))))) :
    ∀ r t, t + r = nt → wl_X7_fails_125 Q K (r + 1) (nI u) (nI N) (nI p) (nI w) (nI s) x6 x8 (nI m) (lN (prW p s m t)) (nI t) M := by
  intro r
  induction r with
  | zero =>
    intro t ht
    have : t = nt := by omega
    subst this
    unfold wl_X7_fails_125
    rw [nI_clamp (n := 1) (by omega), e1]
    exact ⟨vp_in_nI (by omega) (by omega), fun _ => hQ, fun h => absurd (Int32.le_refl _) h⟩
  | succ r ih =>
    intro t ht
    unfold wl_X7_fails_125
    rw [nI_clamp (n := 1) (by omega), e1]
    refine ⟨vp_in_nI (by omega) (by omega), fun h => absurd h (nI_ge (by omega) (by omega)), fun _ => ?_⟩
    have IH := ih (t + 1) (by omega)
    have e : prW p s m (t + 1) = prW p s m t * (if bt s t = true then (if bt m t = true then 10 - p else p) else 1) := rfl
    rw [e] at IH
    unfold wp_X7_has
    rw [bt_has t (by omega) s (by omega), bt_has t (by omega) m (by omega)]
    refine ⟨fun q => ?_, fun q => ?_⟩
    · simp only [z0, not_true_eq_false, t01, false_implies, true_and, and_true]
      rintro _ rfl _ rfl
      rw [lN_mul, nI_add]
      rw [if_neg q] at IH
      exact IH
    · simp only [z1, not_false_eq_true, t01, false_implies, true_and, and_true]
      rw [if_pos q] at IH
      refine ⟨fun q2 => ?_, fun q2 => ?_⟩
      · simp only [z0, not_true_eq_false, t01, false_implies, true_and, and_true]
        rintro _ rfl _ rfl
        rw [nI_l (by omega), lN_mul, nI_add]
        rw [if_neg q2] at IH
        exact IH
      · rintro _ rfl _ rfl
        rw [nI_l (by omega), show (10 : Int64) = lN 10 from rfl, lN_sub (by omega), lN_mul, nI_add]
        rw [if_pos q2] at IH
        exact IH
theorem r_fails_l {M0 : gh_M} {S : SS} {X : TR} {u N p w s den : Nat} (hR0 : RS M0 S) (hn24 : S.2.2.2.2.2.1.1 ≤ 24) (hX : S.2.2.2.2.1 = some X) (hu : u < X.2.1.2.2) (hk : trOK X) (hN : N ≤ 60) (hp : p < 11) (hs : s < 2 ^ X.2.1.2.1) (hd : den ≤ 100000) (hd0 : 0 < den) (hnd : nsum (nmR p s X.2.1.2.1 (hitF X u N)) (2 ^ X.2.1.2.1) ≤ den) {Q : Int64 → gh_M → Prop} (hQ : ∀ M', fs M0 M' → Q (faR w (nsum (nmR p s X.2.1.2.1 (hitF X u N)) (2 ^ X.2.1.2.1)) den) M') :
    ∀ (r m : Nat) (M : gh_M), m + r = 2 ^ X.2.1.2.1 → fs M0 M → wl_X7_fails_100 Q (r + 1) (nI u) (nI N) (nI p) (nI w) (nI s) (lN (nsum (nmR p s X.2.1.2.1 (hitF X u N)) m)) (lN den) (nI m) M := by
  have b1 := hk.hd.2.2.2.2.1
  have b2 := hk.hd.2.2.2.2.2.1
  have p32 := p2le b1
  have pp := p2pos X.2.1.2.1
  intro r
  induction r with
  | zero =>
    intro m M hm hf
    have hR := hR0.fs hf hn24
    unfold wl_X7_fails_100 wp_X7_allTricks
    rw [nI_clamp (n := 1) (by omega), show M 33 0 1 = nI X.2.1.2.1 from ((hR.trn hX).at0 (i := 1) (by omega) rfl).trans hk.hd.2.1, p21 _ (by omega)]
    have : m = 2 ^ X.2.1.2.1 := by omega
    subst this
    exact ⟨vp_in_nI (by omega) (by omega), fun _ => ⟨37, r_gcd hd hnd hd0 (hQ M hf)⟩, fun h => absurd (nI_lt (by omega) (by omega)) h⟩
  | succ r ih =>
    intro m M hm hf
    have hR := hR0.fs hf hn24
    have e1 : M 33 0 1 = nI X.2.1.2.1 := ((hR.trn hX).at0 (i := 1) (by omega) rfl).trans hk.hd.2.1
    unfold wl_X7_fails_100
    unfold wp_X7_allTricks
    rw [nI_clamp (n := 1) (by omega), e1, p21 _ (by omega), sb_r m (by omega) s (by omega)]
    refine ⟨vp_in_nI (by omega) (by omega), fun h => absurd h (nI_nlt (by omega) (by omega)), fun _ => ?_⟩
    have en : nsum (nmR p s X.2.1.2.1 (hitF X u N)) (m + 1) = nsum (nmR p s X.2.1.2.1 (hitF X u N)) m + nmR p s X.2.1.2.1 (hitF X u N) m := rfl
    refine ⟨fun q => ?_, fun q => ?_⟩
    · rintro _ rfl
      rw [nI_add]
      have IH := ih (m + 1) M (by omega) hf
      have e0 : nmR p s X.2.1.2.1 (hitF X u N) m = 0 := by unfold nmR; rw [if_neg q]
      rw [en, e0, Nat.add_zero] at IH
      exact IH
    · rintro _ rfl
      refine ⟨X.2.1.2.1 + 1, r_prW_l b1 (by omega) (by omega) hp e1 ?_ X.2.1.2.1 0 (by omega)⟩
      refine r_beg hR hX hk (fun M2 k2 t2 => r_sw ((k2 33 0 1 (by omega) (by omega) (by omega)).trans e1) hk t2 (fun M3 k3 t3 => r_run hN (hdk.sw hk.hd _) t3 (fun M4 k4 t4 => ?_)))
      have IH := ih (m + 1) M4 (by omega) (hf.tr ((k2.tr k3).tr k4))
      rw [nI_clamp (n := u) (by omega), t4.2.1.1 u (by omega), hit_e hk hu hN]
      refine ⟨vp_in_nI (by omega) (by omega), fun q2 => ?_, fun q2 => ?_⟩
      · rintro _ rfl _ rfl
        have e0 : nmR p s X.2.1.2.1 (hitF X u N) m = 0 := by unfold nmR; rw [if_pos q, if_neg q2]
        rw [en, e0] at IH
        rw [show lN 0 = lN 0 from rfl, lN_add, nI_add]
        exact IH
      · rintro _ rfl _ rfl
        have e0 : nmR p s X.2.1.2.1 (hitF X u N) m = prW p s m X.2.1.2.1 := by unfold nmR; rw [if_pos q, if_pos (Decidable.not_not.mp q2)]
        rw [en, e0] at IH
        rw [lN_add, nI_add]
        exact IH
theorem r_ten_l {M : gh_M} {nt s : Nat} (hn : nt ≤ 5) (hs : s < 32) {Q : Int64 → gh_M → Prop} {u N p w : Int32} {x6 : Int64} (e1 : M 33 0 1 = nI nt) (hQ : ∃ k, wl_X7_fails_100 Q k u N p w (nI s) x6 (lN (tnW s nt)) (nI 0) M) :
    ∀ r t, t + r = nt → wl_X7_fails_58 Q (r + 1) u N p w (nI s) x6 (lN (tnW s t)) (nI t) M := by
  intro r
  induction r with
  | zero =>
    intro t ht
    have : t = nt := by omega
    subst this
    unfold wl_X7_fails_58
    rw [nI_clamp (n := 1) (by omega), e1]
    exact ⟨vp_in_nI (by omega) (by omega), fun _ => hQ, fun h => absurd (Int32.le_refl _) h⟩
  | succ r ih =>
    intro t ht
    unfold wl_X7_fails_58
    rw [nI_clamp (n := 1) (by omega), e1]
    refine ⟨vp_in_nI (by omega) (by omega), fun h => absurd h (nI_ge (by omega) (by omega)), fun _ => ?_⟩
    have IH := ih (t + 1) (by omega)
    have e : tnW s (t + 1) = tnW s t * (if bt s t = true then 10 else 1) := rfl
    rw [e] at IH
    unfold wp_X7_has
    rw [bt_has t (by omega) s (by omega)]
    refine ⟨fun q => ?_, fun q => ?_⟩
    · simp only [z0, not_true_eq_false, t01, false_implies, true_and, and_true]
      rintro _ rfl _ rfl
      rw [lN_mul, nI_add]
      rw [if_neg q] at IH
      exact IH
    · simp only [z1, not_false_eq_true, t01, false_implies, true_and, and_true]
      rintro _ rfl _ rfl
      rw [show (10 : Int64) = lN 10 from rfl, lN_mul, nI_add]
      rw [if_pos q] at IH
      exact IH
theorem L_fails {a0 a1 a2 a3 : Int32} {M : gh_M} {S : SS} (hC : CS M S) (hR : RS M S) : wp_X6_fails a0 a1 a2 a3 M (fun r1 M1 => wp_X7_fails a0 a1 a2 a3 M1 (fun r2 M2 => r1 = r2 ∧ OKn M2)) := by
  have hOK : OKn M := ⟨S, hC, hR⟩
  have hT := hC.2.2.2.2.2.2.1
  have hT2 := hR.2.2.2.2.2.1
  obtain ⟨e0, e1, e2, b0, b1, b2⟩ := hT.hd
  obtain ⟨f0, f1, f2⟩ := hT2.hd hT.ok
  unfold wp_X6_fails wp_X7_fails
  rcases ix a0 (ona S.2.2.2.2.1) (by omega) with ⟨u, hu, rfl⟩ | hb
  · refine c_isCy e2 hu (by omega) ?_
    simp only [z1, not_false_eq_true, t01, false_implies, true_and, and_true]
    rcases few a1 60 (by omega) with ⟨N, hN, rfl⟩ | ⟨hb, -⟩
    · refine w6y (nI_nlt (by omega) (by omega)) (nI_nlt hN (by omega)) ?_
      simp only [z1, not_false_eq_true, t01, false_implies, true_and, and_true]
      rcases few a2 10 (by omega) with ⟨p, hp, rfl⟩ | ⟨hb, -⟩
      · refine w6y (nI_nlt (by omega) (by omega)) (nI_nlt hp (by omega)) ?_
        simp only [z1, not_false_eq_true, t01, false_implies, true_and, and_true]
        rcases few a3 1 (by omega) with ⟨w, hw, rfl⟩ | ⟨hb, -⟩
        · refine w6y (nI_nlt (by omega) (by omega)) (nI_nlt hw (by omega)) ?_
          simp only [z1, not_false_eq_true, t01, false_implies, true_and, and_true]
          cases hX : S.2.2.2.2.1 with
          | none => rw [hX] at hu; exact absurd hu (Nat.not_lt_zero _)
          | some X =>
            rw [hX] at e0 e1 e2 f0 f1 f2 b0 b1 b2 hu
            have hu' : u < X.2.1.2.2 := hu
            obtain ⟨hk, hz, h19⟩ := hC.trn hX
            have b1' : X.2.1.2.1 ≤ 5 := b1
            have p32 := p2le b1'
            obtain ⟨s, hs, es⟩ := sp_on_nat X.1 X.2.1.2.1 b1 hz.wf.2.1
            unfold wp_X2_screamsIfFailing
            refine c_on hz.cd hk.hd.2.1 b1 hz.wf ?_
            rw [es]
            rintro _ rfl _ rfl
            refine ⟨2 ^ X.2.1.2.1 + 1, c_fails_l (M0 := M) (w := w) (p := p) (s := s) hX hu' hk hN (by omega) hs (fun M3 hC3 fr => ?_) (2 ^ X.2.1.2.1) 0 M (by omega) hC fR.refl⟩
            have hR3 := hR.fR fr hC.n24
            have hr3 := hR3.trn hX
            refine r_isCy (fr 33 0 (by omega) ▸ f2) hu (by omega) ?_
            simp only [z1, not_false_eq_true, t01, false_implies, true_and, and_true]
            refine w7y (nI_nlt (by omega) (by omega)) (nI_nlt hN (by omega)) ?_
            simp only [z1, not_false_eq_true, t01, false_implies, true_and, and_true]
            refine w7y (nI_nlt (by omega) (by omega)) (nI_nlt hp (by omega)) ?_
            simp only [z1, not_false_eq_true, t01, false_implies, true_and, and_true]
            refine w7y (nI_nlt (by omega) (by omega)) (nI_nlt hw (by omega)) ?_
            simp only [z1, not_false_eq_true, t01, false_implies, true_and, and_true]
            refine r_onSet (x := 0) (by omega) hr3 hk.hd.2.1 b1 ?_
            rw [es]
            rintro _ rfl _ rfl
            have q1 := dn_e X.2.1.2.1 (by omega) s hs p (by omega)
            have q2 := tnW_e X.2.1.2.1 (by omega) s hs
            have q3 := nm_le (p := p) (s := s) (n := 2 ^ X.2.1.2.1) (hit := hitF X u N)
            have q4 := fa_e (p := p) (s := s) (n := X.2.1.2.1) (hit := hitF X u N) (by omega) hs (by omega)
            rw [q4, q1] at q3
            rw [q4, q1, ← q2.1]
            refine ⟨X.2.1.2.1 + 1, r_ten_l b1' (by omega) (fr 33 0 (by omega) ▸ f1) ⟨2 ^ X.2.1.2.1 + 1, r_fails_l (M0 := M3) (p := p) (s := s) (den := tnW s X.2.1.2.1) hR3 hC.n24 hX hu' hk hN (by omega) hs (by omega) (by omega) (by omega) (fun M4 k4 => ⟨rfl, S, hC3.fC k4.fC, hR3.fs k4 hC.n24⟩) (2 ^ X.2.1.2.1) 0 M3 (by omega) fs.refl⟩ X.2.1.2.1 0 (by omega)⟩
        · refine w6n hb ?_
          simp only [z0, not_true_eq_false, t01, false_implies, true_and, and_true]
          refine r_isCy f2 hu (by omega) ?_
          simp only [z1, not_false_eq_true, t01, false_implies, true_and, and_true]
          refine w7y (nI_nlt (by omega) (by omega)) (nI_nlt hN (by omega)) ?_
          simp only [z1, not_false_eq_true, t01, false_implies, true_and, and_true]
          refine w7y (nI_nlt (by omega) (by omega)) (nI_nlt hp (by omega)) ?_
          simp only [z1, not_false_eq_true, t01, false_implies, true_and, and_true]
          refine w7n hb ?_
          simp only [z0, not_true_eq_false, t01, false_implies, true_and, and_true]
          exact hOK
      · refine w6n hb ?_
        simp only [z0, not_true_eq_false, t01, false_implies, true_and, and_true]
        refine r_isCy f2 hu (by omega) ?_
        simp only [z1, not_false_eq_true, t01, false_implies, true_and, and_true]
        refine w7y (nI_nlt (by omega) (by omega)) (nI_nlt hN (by omega)) ?_
        simp only [z1, not_false_eq_true, t01, false_implies, true_and, and_true]
        refine w7n hb ?_
        simp only [z0, not_true_eq_false, t01, false_implies, true_and, and_true]
        exact hOK
    · refine w6n hb ?_
      simp only [z0, not_true_eq_false, t01, false_implies, true_and, and_true]
      refine r_isCy f2 hu (by omega) ?_
      simp only [z1, not_false_eq_true, t01, false_implies, true_and, and_true]
      refine w7n hb ?_
      simp only [z0, not_true_eq_false, t01, false_implies, true_and, and_true]
      exact hOK
  · refine c_isCn e2 hb ?_
    simp only [z0, not_true_eq_false, t01, false_implies, true_and, and_true]
    refine r_isCn f2 hb ?_
    simp only [z0, not_true_eq_false, t01, false_implies, true_and, and_true]
    exact hOK
