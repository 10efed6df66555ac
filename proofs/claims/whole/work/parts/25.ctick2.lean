/-- who is in a cell, but for one car -/
def icI (I : Nat → Int32) (T : TT) (nc na car : Nat) : Prop := ∀ j, j < nc → (I j = (-1 : Int32) ∧ ∀ c, c < na → c ≠ car → T (29 + 7 * c + 3) ≠ nI j) ∨ ∃ c, c < na ∧ c ≠ car ∧ T (29 + 7 * c + 3) = nI j ∧ I j = nI c
/-- a train as it should be -/
def cz (M0 : gh_M) (t nc nt na : Nat) (K : Nat → Int32) (M : gh_M) (T : TT) : Prop := ∃ I, cx M0 t nt na (nI (cnt T na)) I K M T ∧ icI I T nc na 7 ∧ wf T nc nt na
theorem nI_m1 {c : Nat} (h : c < 2 ^ 31) : ¬ nI c = (-1 : Int32) := by
  intro e
  have h1 : (nI c).toInt = (-1 : Int32).toInt := congrArg Int32.toInt e
  rw [nI_toInt h] at h1
  have h2 : (-1 : Int32).toInt = -1 := by decide
  rw [h2] at h1
  omega
theorem icI.some {I : Nat → Int32} {T : TT} {nc nt na j c : Nat} (h : icI I T nc na 7) (hw : wf T nc nt na) (ha : na ≤ 6) (hnc : nc ≤ 12) (hj : j < nc) (hc : c < na) (e : T (29 + 7 * c + 3) = nI j) : I j = nI c := by
  rcases h j hj with ⟨-, g⟩ | ⟨d, hd, -, g1, g2⟩
  · exact absurd e (g c hc (by omega))
  · by_cases q : c = d
    · subst q; exact g2
    · have := hw.2.2.2.2.1 c d hc hd q (e.trans g1.symm)
      rw [e] at this
      exact absurd this (nI_20 (by omega))
theorem icI.none {I : Nat → Int32} {T : TT} {nc na j : Nat} (h : icI I T nc na 7) (ha : na ≤ 6) (hj : j < nc) (g : ∀ c, c < na → T (29 + 7 * c + 3) ≠ nI j) : I j = (-1 : Int32) := by
  rcases h j hj with ⟨g1, -⟩ | ⟨d, hd, -, g1, g2⟩
  · exact g1
  · exact absurd g1 (g d hd)
theorem icI.off {I : Nat → Int32} {T : TT} {nc nt na j car : Nat} (h : icI I T nc na 7) (hw : wf T nc nt na) (ha : na ≤ 6) (hnc : nc ≤ 12) (hj : j < nc) (hc : car < na) (e : T (29 + 7 * car + 3) = nI j) : icI (upd I j (-1)) T nc na car := by
  intro k hk
  by_cases q : k = j
  · subst q
    refine Or.inl ⟨pk_us, fun c hc2 hne g => ?_⟩
    have := hw.2.2.2.2.1 c car hc2 hc hne (g.trans e.symm)
    rw [g] at this
    exact nI_20 (by omega) this
  · rw [pk_un q]
    rcases h k hk with ⟨g1, g2⟩ | ⟨d, hd, -, g1, g2⟩
    · exact Or.inl ⟨g1, fun c hc2 _ => g2 c hc2 (by omega)⟩
    · refine Or.inr ⟨d, hd, fun z => ?_, g1, g2⟩
      subst z
      exact q (zb_nI_inj (g1.symm.trans e) (by omega) (by omega))
/-- it comes to cell j; all others stay -/
theorem icI.on {I : Nat → Int32} {T T' : TT} {nc na j car : Nat} (h : icI I T nc na car) (ha : na ≤ 6) (hnc : nc ≤ 12) (hj : j < nc) (hc : car < na) (hf : ∀ c, c < na → c ≠ car → T (29 + 7 * c + 3) ≠ nI j) (e : ∀ c, c < na → T' (29 + 7 * c + 3) = if c = car then nI j else T (29 + 7 * c + 3)) : icI (upd I j (nI car)) T' nc na 7 := by
  intro k hk
  by_cases q : k = j
  · subst q
    exact Or.inr ⟨car, hc, by omega, by rw [e car hc, if_pos rfl], pk_us⟩
  · rw [pk_un q]
    rcases h k hk with ⟨g1, g2⟩ | ⟨d, hd, hne, g1, g2⟩
    · refine Or.inl ⟨g1, fun c hc2 _ => ?_⟩
      rw [e c hc2]
      by_cases z : c = car
      · rw [if_pos z]
        exact fun w => q (zb_nI_inj w.symm (by omega) (by omega))
      · rw [if_neg z]
        exact g2 c hc2 z
    · exact Or.inr ⟨d, hd, by omega, by rw [e d hd, if_neg hne]; exact g1, g2⟩
theorem icI.out {I : Nat → Int32} {T : TT} {nc na car : Nat} {v : Int32} (h : icI I T nc na car) (ha : na ≤ 6) (hnc : nc ≤ 12) (hv : ∀ j, j < nc → v ≠ nI j) : icI I (upd T (29 + 7 * car + 3) v) nc na 7 := by
  intro k hk
  rcases h k hk with ⟨g1, g2⟩ | ⟨d, hd, hne, g1, g2⟩
  · refine Or.inl ⟨g1, fun c hc2 _ => ?_⟩
    by_cases z : c = car
    · subst z; rw [pk_us]; exact hv k hk
    · rw [pk_un (by omega)]; exact g2 c hc2 z
  · exact Or.inr ⟨d, hd, by omega, by rw [pk_un (by omega)]; exact g1, g2⟩
theorem rn_upd {T : TT} {car c : Nat} {v : Int32} : rn (upd T (29 + 7 * car + 3) v) c = if c = car then !decide (nI 20 ≤ v) else rn T c := by
  unfold rn
  by_cases e : c = car
  · subst e; rw [pk_us, if_pos rfl]
  · rw [pk_un (by omega), if_neg e]
theorem cnt_upd {T : TT} {na car : Nat} {v : Int32} (hc : car < na) : cnt (upd T (29 + 7 * car + 3) v) na + (if rn T car = true then 1 else 0) = cnt T na + (if nI 20 ≤ v then 0 else 1) := by
  have h := fb_ct_upd (rn T) (!decide (nI 20 ≤ v)) hc
  have e : cnt (upd T (29 + 7 * car + 3) v) na = fb_ct (fun k => if k = car then !decide (nI 20 ≤ v) else rn T k) na := fb_ct_cong fun c _ => rn_upd
  rw [e]
  unfold cnt
  by_cases g : nI 20 ≤ v
  · rw [if_pos g]
    simpa [g] using h
  · rw [if_neg g]
    simpa [g] using h
theorem rn_at {T : TT} {c j : Nat} (h : T (29 + 7 * c + 3) = nI j) (hj : j < 20) : rn T c = true := by
  unfold rn
  rw [h]
  simpa using nI_20 hj
theorem rn_no {T : TT} {c : Nat} (h : nI 20 ≤ T (29 + 7 * c + 3)) : rn T c = false := by
  unfold rn
  simpa using h
theorem sp_c0_h (T : TT) (na : Nat) {nt : Nat} (car : Nat) (v : Int32) (c : Nat) (hn : nt ≤ 5) : sp_c0 T na nt car v (29 + 7 * c + 6) = T (29 + 7 * c + 6) := by
  have key : ∀ n, n ≤ 5 → sp_ms (upd T (29 + 7 * car + 3) v) na car v n (29 + 7 * c + 6) = T (29 + 7 * c + 6) := by
    intro n
    induction n with
    | zero => intro _; show upd T _ v _ = _; rw [pk_un (by omega)]
    | succ n ih =>
      intro h
      show sp_m1 _ na car v n _ = _
      unfold sp_m1
      split
      · unfold sp_fri sp_met
        rw [pk_un (by omega), pk_un (by omega)]
        exact ih (by omega)
      · exact ih (by omega)
  exact key nt hn
theorem c_go_l {M0 : gh_M} {t nt na nc car : Nat} {pc : Nat → Nat} {K : Nat → Int32} (hc : car < na) {Q : gh_M → Prop} {P : Nat} (hP : P ≤ 3) :
    ∀ (r k : Nat) (M : gh_M) (T : TT) (j : Nat), k + r = P → T (29 + 7 * car + 2) = nI P → sp_hd T nc nt na pc → T (29 + 7 * car + 6) = nI 0 → j < nc → T (29 + 7 * car + 3) = nI j → cz M0 t nc nt na K M T → (∀ M', cz M0 t nc nt na K M' (sp_goF na nt car r T) → Q M') → wl_X5_goOn_19 t Q (r + 1) (nI car) (nI k) M := by
  intro r
  induction r with
  | zero =>
    intro k M T j hk hp hh hH hj hW hZ hQ
    obtain ⟨I, hX, hI, hw⟩ := hZ
    have hd := hX.1
    obtain ⟨k0, k1, k2, b0, b1, b2, k3⟩ := hh
    unfold wl_X5_goOn_19
    simp (disch := omega) only [nI_clamp, zb_in, true_and, hd.c2, hp]
    exact ⟨fun _ => hQ _ ⟨I, hX, hI, hw⟩, fun h => absurd (nI_le (by omega) (by omega)) h⟩
  | succ r ih =>
    intro k M T j hk hp hh hH hj hW hZ hQ
    obtain ⟨I, hX, hI, hw⟩ := hZ
    have hd := hX.1
    have hh' := hh
    obtain ⟨k0, k1, k2, b0, b1, b2, k3⟩ := hh
    have e0 : M 6 t 0 = nI nc := hd.1.trans k0
    have hrn := rn_at hW (by omega)
    unfold sp_goF at hQ
    rw [hW, nI_add, k0] at hQ
    unfold wl_X5_goOn_19
    simp (disch := omega) only [nI_add, nI_clamp, zb_in, true_and, hd.c2, hd.c3, hd.c6, hp, hH, hW, forall_eq, e0, hX.2.2.1, zb_k, zb_j]
    refine ⟨fun h => absurd h (nI_ge (by omega) (by omega)), fun _ => ⟨fun h => absurd rfl h, fun _ => ⟨fun g => ?_, fun g => ?_⟩⟩⟩
    · have g1 := (nI_leI (by omega) (by omega)).mp g
      have ej : j + 1 = nc := by omega
      refine ⟨fun q => absurd q (nI_nlt g1 (by omega)), fun _ => ?_⟩
      rw [if_pos (by rw [ej])] at hQ
      have hc1 := cnt_upd (T := T) (v := nI 21) hc
      rw [if_pos hrn, if_pos (by decide)] at hc1
      refine hQ _ ⟨upd I j (-1), ?_, (hI.off hw b2 b0 hj hc hW).out b2 b0 (fun i hi e => ?_), hw.go b1 (Or.inr (Or.inr rfl)) (fun c _ _ _ => by decide)⟩
      · have h1 := ((hX.stI j (-1)).stC b1 (k := 15) (c := car) (f := 3) (v := nI 21) rfl (by omega) (Or.inl (by omega))).stR (M 6 t 4 - nI 1)
        rw [hX.2.1] at h1 ⊢
        have ec : nI (cnt T na) - nI 1 = nI (cnt (upd T (29 + 7 * car + 3) (nI 21)) na) := by rw [pk_sub (by omega)]; congr 1; omega
        rw [ec] at h1 ⊢
        exact h1
      · have := zb_nI_inj e (by omega) (by omega)
        omega
    · have g1 : j + 1 < nc := by
        rcases Nat.lt_or_ge (j + 1) nc with q | q
        · exact q
        · exact absurd (nI_le q (by omega)) g
      have b12 : j + 1 < 12 := by omega
      simp (disch := omega) only [nI_clamp, zb_in, true_and]
      rw [if_neg (fun e => by have := zb_nI_inj e (by omega) (by omega); omega)] at hQ
      refine ⟨fun q => ⟨fun _ => ?_, fun z => absurd (nI_lt g1 (by omega)) z⟩, fun q => ?_⟩
      · have hfr : ∀ c, c < na → T (29 + 7 * c + 3) ≠ nI (j + 1) := by
          intro c hc2 e
          rw [hI.some hw b2 b0 g1 hc2 e] at q
          exact nI_m1 (by omega) q
        have hin : sp_in T na (nI (j + 1)) = none := by
          cases h9 : sp_in T na (nI (j + 1)) with
          | none => rfl
          | some c => exact absurd (sp_in_some h9).2 (hfr c (sp_in_some h9).1)
        rw [hin, if_neg (by decide)] at hQ
        have hc1 := cnt_upd (T := T) (v := nI (j + 1)) hc
        rw [if_pos hrn, if_neg (nI_20 (by omega))] at hc1
        have ec : cnt T na = cnt (upd T (29 + 7 * car + 3) (nI (j + 1))) na := by omega
        have hX1 := hX.stI j (-1)
        rw [ec] at hX1
        refine c_come (nc := nc) k1 hw b1 b2 b0 hc g1 (fun c hc2 _ => hfr c hc2) hX1 (fun M' hX' => ?_)
        have hcz : cz M0 t nc nt na K M' (sp_co T na nt car (nI (j + 1))) := by
          refine ⟨_, ?_, (hI.off hw b2 b0 hj hc hW).on b2 b0 g1 hc (fun c hc2 _ => hfr c hc2) (fun c _ => sp_co_w T na car _ c b1), hw.co b1 (Or.inl ⟨_, g1, rfl⟩) (fun c hc2 _ e => absurd e (hfr c hc2))⟩
          have e2 : cnt (upd T (29 + 7 * car + 3) (nI (j + 1))) na = cnt (sp_co T na nt car (nI (j + 1))) na := cnt_cong fun c hc2 => by
            unfold rn
            rw [sp_co_w T na car _ c b1, zb_upd]
            by_cases z : c = car
            · rw [if_pos (by omega), if_pos z]
            · rw [if_neg (by omega), if_neg z]
          rw [e2] at hX'
          exact hX'
        have hco2 : sp_co T na nt car (nI (j + 1)) (29 + 7 * car + 2) = nI P := by
          rw [sp_co_kp T na _ (by omega) b1 _ (by unfold sp_ch; rintro (h | ⟨t, ht, h⟩ | ⟨c, hc, h | h | h | h⟩) <;> omega)]
          exact hp
        by_cases gs : (sp_c0 T na nt car (nI (j + 1))) (29 + 7 * car + 1) ≤ (sp_c0 T na nt car (nI (j + 1))) (29 + 7 * car + 4)
        · rw [if_pos gs] at hQ
          obtain ⟨I', hX2, hI2, hw2⟩ := hcz
          have hd2 := hX2.1
          have hH2 : sp_co T na nt car (nI (j + 1)) (29 + 7 * car + 6) = nI 1 := by
            unfold sp_co
            rw [if_pos gs]
            unfold sp_sc
            rw [pk_us]
          unfold wl_X5_goOn_19
          simp (disch := omega) only [nI_clamp, zb_in, true_and, hd2.c2, hd2.c6, hco2, hH2]
          exact ⟨fun _ => hQ _ ⟨I', hX2, hI2, hw2⟩, fun _ => ⟨fun _ => hQ _ ⟨I', hX2, hI2, hw2⟩, fun z => absurd z (by decide)⟩⟩
        · rw [if_neg gs] at hQ
          refine ih (k + 1) M' _ (j + 1) (by omega) hco2 (hh'.kp (sp_co_kp T na _ (by omega) b1)) ?_ g1 (by rw [sp_co_w T na car _ car b1, if_pos rfl]) hcz hQ
          unfold sp_co
          rw [if_neg gs, sp_c0_h T na car _ car b1]
          exact hH
      · have hin : (sp_in T na (nI (j + 1))).isSome = true := by
          cases h9 : sp_in T na (nI (j + 1)) with
          | some c => rfl
          | none => exact absurd (hI.none b2 g1 (sp_in_none h9)) q
        rw [if_pos hin] at hQ
        exact hQ _ ⟨I, hX, hI, hw⟩
theorem c_go {M0 M : gh_M} {t nt na nc car j : Nat} {pc : Nat → Nat} {K : Nat → Int32} {T : TT} (hc : car < na) (hh : sp_hd T nc nt na pc) (hj : j < nc) (hW : T (29 + 7 * car + 3) = nI j) (hZ : cz M0 t nc nt na K M T) {Q : gh_M → Prop} (hQ : ∀ M', cz M0 t nc nt na K M' (sp_go pc T na nt car) → Q M') : wp_X5_goOn t (nI car) M Q := by
  have hZ' := hZ
  obtain ⟨I, hX, hI, hw⟩ := hZ
  have hd := hX.1
  have hh' := hh
  obtain ⟨k0, k1, k2, b0, b1, b2, k3⟩ := hh
  unfold wp_X5_goOn
  unfold sp_go at hQ
  simp (disch := omega) only [nI_clamp, zb_in, true_and, hd.c6]
  refine ⟨fun h => ?_, fun h => ?_⟩
  · rw [if_neg (by rw [h]; decide)] at hQ
    exact ⟨pc car + 1, c_go_l hc (k3 car hc).2 (pc car) 0 M T j (by omega) (k3 car hc).1 hh' h hj hW hZ' hQ⟩
  · have h1 : T (29 + 7 * car + 6) = nI 1 := by
      rcases hw.2.2.2.2.2 car hc with q | q
      · exact absurd q h
      · exact q
    rw [if_pos h1] at hQ
    rintro _ rfl
    refine hQ _ ⟨I, ?_, fun i hi => ?_, hw.halt (Or.inl rfl) b1⟩
    · have h2 := hX.stC b1 (k := 18) (c := car) (f := 6) (v := nI 0 &&& 1) rfl (by omega) (Or.inr (Or.inl rfl))
      have ec : cnt T na = cnt (upd T (29 + 7 * car + 6) (nI 0)) na := cnt_cong fun c _ => by unfold rn; rw [pk_un (by omega)]
      rw [← ec]
      exact h2
    · rcases hI i hi with ⟨g1, g2⟩ | ⟨d, hd2, hne, g1, g2⟩
      · exact Or.inl ⟨g1, fun c hc2 hne => by rw [pk_un (by omega)]; exact g2 c hc2 hne⟩
      · exact Or.inr ⟨d, hd2, hne, by rw [pk_un (by omega)]; exact g1, g2⟩
