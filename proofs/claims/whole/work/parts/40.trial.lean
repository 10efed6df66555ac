-- WHAT IS TRIED: the class on the train 28, the reference on its row; AHEAD, SHOW, WHEN, OVER
abbrev HD : Type := (Nat × Nat × Nat) × (Nat → Nat)
def run (h : HD) (n : Nat) (T : TT) : TT := sp_run h.2 idk h.1.1 h.1.2.1 h.1.2.2 n T
def tk (h : HD) (T : TT) : TT := sp_tk h.2 idk h.1.1 h.1.2.1 h.1.2.2 T
def hdk (T : TT) (h : HD) : Prop := sp_hd T h.1.1 h.1.2.1 h.1.2.2 h.2
theorem hdk.tk {T : TT} {h : HD} (g : hdk T h) : hdk (tk h T) h := sp_hd.kp g (sp_tk_kp g.2.2.2.2.2.1 g.2.2.2.2.1 (fun k hk => Nat.lt_of_lt_of_le hk g.2.2.2.2.2.1) T)
theorem hdk.run {T : TT} {h : HD} (g : hdk T h) (n : Nat) : hdk (run h n T) h := sp_hd.kp g (sp_run_kp g.2.2.2.2.2.1 g.2.2.2.2.1 (fun k hk => Nat.lt_of_lt_of_le hk g.2.2.2.2.2.1) n T)
section Z
variable {M : gh_M} {S : SS} {X : TR} {T : TT} {h : HD} {Q : gh_M → Prop}
theorem z_copy (hC : CS M S) (hX : S.2.2.2.2.1 = some X) (hQ : ∀ M', ff M M' → ctr M' 28 X → Q M') : wp_X5_copyFrom 28 0 M Q :=
  c_copy (by omega) (hC.1 0 (by omega)) (fun M2 h2 => hQ M2 h2.ft.ff (ctr.cp h2 (hC.trn hX).1 (hC.trn hX).2))
theorem cs_zf {M' : gh_M} (hC : CS M S) (e : ff M M') (hz : ctr M' 28 (T, h)) : CS M' S := hC.ff e hz.1.bo
theorem z_for {N : Nat} (hN : N ≤ 60) (h4 : 0 < h.1.1) (hh : hdk T h) (hz : ctr M 28 (T, h)) (hQ : ∀ M' T', ff M M' → ctr M' 28 (T', h) → eq3 T' (run h N T) → Q M') : wp_X5_tickOnFor 28 (nI N) M Q :=
  c_for (M0 := M) (K := M 19 28) (pc := h.2) (rk := idk) hN (fun k hk => ⟨hz.2 k hk, hk⟩) h4 hh hz.1 (fun M' T' hz' e' => hQ M' T' hz'.ft.ff ⟨hz'.re, fun k hk => (hz'.K19 k).trans (hz.2 k hk)⟩ e')
theorem z_tick (h4 : 0 < h.1.1) (hh : hdk T h) (hz : ctr M 28 (T, h)) (hQ : ∀ M', ff M M' → ctr M' 28 (tk h T, h) → Q M') : wp_X5_tickOn 28 M Q :=
  c_tick (M0 := M) (K := M 19 28) (pc := h.2) (rk := idk) (fun k hk => ⟨hz.2 k hk, hk⟩) h4 hh hz.1 (fun M' hz' => hQ M' hz'.ft.ff ⟨hz'.re, fun k hk => (hz'.K19 k).trans (hz.2 k hk)⟩)
theorem z_sw {v : Int32} (hh : hdk T h) (hz : ctr M 28 (T, h)) (hQ : ∀ M', ff M M' → ctr M' 28 (sp_sw T v h.1.2.1, h) → Q M') : wp_X5_switchTo 28 v M Q :=
  c_sw (M0 := M) (K := M 19 28) hh.2.1 hh.2.2.2.2.1 hz.1 (fun M' hz' => hQ M' hz'.ft.ff ⟨hz'.re, fun k hk => (hz'.K19 k).trans (hz.2 k hk)⟩)
theorem z_re {M' : gh_M} {T' : TT} (hz : ctr M 28 (T, h)) (hz' : cz M 28 h.1.1 h.1.2.1 h.1.2.2 (M 19 28) M' T') : ctr M' 28 (T', h) ∧ ff M M' := ⟨⟨hz'.re, fun k hk => (hz'.K19 k).trans (hz.2 k hk)⟩, hz'.ft.ff⟩
-- the reference
theorem tried.st {na : Nat} {rk : Nat → Nat} {S0 : Nat → Int32} {h0 : Int32} {q i : Nat} {v : Int32} (g : tried M na rk S0 h0 T) (hq : q = 1917 + i) (hi : i < 71) (hs : ∀ c, c < 6 → i ≠ 29 + 7 * c + 5) (hna : na ≤ 6) : tried (gh_st M 33 0 q v) na rk S0 h0 (upd T i v) ∧ fs M (gh_st M 33 0 q v) := by
  obtain ⟨g1, g2, g3⟩ := g
  have r := rx.st (M0 := M) ⟨g1, g2, rf.refl⟩ hq hi hs hna (v := v)
  exact ⟨⟨r.1, r.2.1, g3.mv r.2.2⟩, r.2.2.fs⟩
def S0X (X : TR) : Nat → Int32 := fun c => X.1 (29 + 7 * c + 5)
def h0X (X : TR) : Int32 := -bx_sum (fun c => X.1 (29 + 7 * c + 5)) X.2.1.2.2
def trd (M : gh_M) (X : TR) (T : TT) : Prop := tried M X.2.1.2.2 idk (S0X X) (h0X X) T
theorem r_beg (hR : RS M S) (hX : S.2.2.2.2.1 = some X) (hk : trOK X) (hQ : ∀ M', fs M M' → trd M' X X.1 → Q M') : wp_X7_beginTry M Q :=
  r_begin (hR.trn hX) hk.hd.2.2.2.2.2.1 (fun M' t f _ => hQ M' f t)
theorem r_run {N : Nat} (hN : N ≤ 60) (hh : hdk T X.2) (t : trd M X T) (hQ : ∀ M', fs M M' → trd M' X (run X.2 N T) → Q M') : wp_X7_goOn (nI N) M Q :=
  r_goOn (pc := X.2.2) (nt := X.2.1.2.1) (nc := X.2.1.1) hN hh t (fun M' t' f _ => hQ M' f t')
theorem r_tk1 (hh : hdk T X.2) (t : trd M X T) (hQ : ∀ M', fs M M' → trd M' X (tk X.2 T) → Q M') : wp_X7_tickAt (nI 1917) M Q :=
  r_tickT (pc := X.2.2) (nt := X.2.1.2.1) (nc := X.2.1.1) hh t (fun M' t' f _ => hQ M' f t')
end Z
theorem sp_th_e {A B : TT} {how c : Nat} (e : eq3 A B) : sp_th A how c = sp_th B how c := by unfold sp_th; rw [e (29 + 7 * c + 3) (by omega)]
theorem scr_e {A B : TT} {n : Nat} (e : eq3 A B) : bx_sum (fun c => A (29 + 7 * c + 5)) n = bx_sum (fun c => B (29 + 7 * c + 5)) n := bx_cong fun c _ => e _ (by omega)
theorem L_ahead {a0 a1 a2 : Int32} {M : gh_M} {S : SS} (hC : CS M S) (hR : RS M S) : wp_X6_ahead a0 a1 a2 M (fun r1 M1 => wp_X7_ahead a0 a1 a2 M1 (fun r2 M2 => r1 = r2 ∧ OKn M2)) := by
  have hOK : OKn M := ⟨S, hC, hR⟩
  have hT := hC.2.2.2.2.2.2.1
  have hT2 := hR.2.2.2.2.2.1
  obtain ⟨e0, e1, e2, b0, b1, b2⟩ := hT.hd
  obtain ⟨f0, f1, f2⟩ := hT2.hd hT.ok
  unfold wp_X6_ahead wp_X7_ahead
  rcases ix a0 (ona S.2.2.2.2.1) (by omega) with ⟨u, hu, rfl⟩ | hb
  · refine c_isCy e2 hu (by omega) ?_
    simp only [z1, not_false_eq_true, t01, false_implies, true_and, and_true]
    rcases few a1 60 (by omega) with ⟨N, hN, rfl⟩ | ⟨hb, -⟩
    · refine w6y (nI_nlt (by omega) (by omega)) (nI_nlt hN (by omega)) ?_
      simp only [z1, not_false_eq_true, t01, false_implies, true_and, and_true]
      rcases few a2 3 (by omega) with ⟨w, hw, rfl⟩ | ⟨hb, -⟩
      · refine w6y (nI_nlt (by omega) (by omega)) (nI_nlt hw (by omega)) ?_
        simp only [z1, not_false_eq_true, t01, false_implies, true_and, and_true]
        cases hX : S.2.2.2.2.1 with
        | none => rw [hX] at hu; exact absurd hu (Nat.not_lt_zero _)
        | some X =>
          rw [hX] at e0 e1 e2 f0 f1 f2 b0 b1 b2 hu
          have hu' : u < X.2.1.2.2 := hu
          have b2' : X.2.1.2.2 ≤ 6 := b2
          obtain ⟨hk, -⟩ := hC.trn hX
          have o1 := hk.2.1
          unfold wp_X2_behind
          refine z_copy hC hX (fun M2 g2 z2 => z_for hN (by omega) hk.hd z2 (fun M3 T3 g3 z3 e3 => ?_))
          have g4 := g2.tr g3
          have hC3 := cs_zf hC g4 z3
          have hR3 := hR.fR g4.fR hC.n24
          have hd := z3.1.cd
          have key : ∀ r1, r1 = T3 (29 + 7 * u + (3 + w)) → wp_X7_isCar (nI u) M3 (fun r1_1 M2 => ((r1_1 = 0 → r1 = (-1000001 : Int32) ∧ OKn M2) ∧ (¬ r1_1 = 0 → wp_X7_in (nI N) (nI 0) (nI 60) M2 (fun r4 M5 => ((r4 = 0 → r1 = (-1000001 : Int32) ∧ OKn M5) ∧ (¬ r4 = 0 → wp_X7_in (nI w) (nI 0) (nI 3) M5 (fun r7 M8 => ((¬ r7 = 0 → wp_X7_beginTry M8 (fun M11 => wp_X7_goOn (nI N) M11 (fun M13 => wp_X7_carAt (nI 1917) (nI u) M13 (fun r14 M15 => (vp_in ((r14 + (nI 3)) + nI w) 1988 ∧ r1 = (M15 33 0 ((r14 + (nI 3)) + nI w).toNatClampNeg) ∧ OKn M15))))) ∧ (r7 = 0 → r1 = (-1000001 : Int32) ∧ OKn M8))))))))) := by
            intro r1 er
            refine r_isCy (g4.fR 33 0 (by omega) ▸ f2) hu (by omega) ?_
            simp only [z1, not_false_eq_true, t01, false_implies, true_and, and_true]
            refine w7y (nI_nlt (by omega) (by omega)) (nI_nlt hN (by omega)) ?_
            simp only [z1, not_false_eq_true, t01, false_implies, true_and, and_true]
            refine w7y (nI_nlt (by omega) (by omega)) (nI_nlt hw (by omega)) ?_
            simp only [z1, not_false_eq_true, t01, false_implies, true_and, and_true]
            refine r_beg hR3 hX hk (fun M4 k4 t4 => r_run hN hk.hd t4 (fun M5 k5 t5 => ?_))
            unfold wp_X7_carAt
            simp (disch := omega) only [nI_add, pk_mul, nI_clamp, zb_in, true_and]
            refine ⟨?_, S, hC3.fC (k4.tr k5).fC, hR3.fs (k4.tr k5) hC.n24⟩
            rw [er, t5.1.at1 (i := 29 + 7 * u + (3 + w)) (by omega) (by omega)]
            exact e3 _ (by omega)
          simp (disch := omega) only [nI_clamp, zb_in, true_and, nI_eq]
          refine ⟨fun h => key _ (by subst h; exact hd.c3 hu'), fun h => ⟨fun h2 => key _ (by subst h2; exact hd.c4 hu'), fun h2 => ⟨fun h3 => key _ (by subst h3; exact hd.c5 hu'), fun h3 => ?_⟩⟩⟩
          have : w = 3 := by omega
          subst this
          rw [hd.c6 hu']
          exact oneIf_id (z3.1.wf.2.2.2.2.2 u hu') (key _ rfl)
      · refine w6n hb ?_
        simp only [z0, not_true_eq_false, t01, false_implies, true_and, and_true]
        refine r_isCy f2 hu (by omega) ?_
        simp only [z1, not_false_eq_true, t01, false_implies, true_and, and_true]
        refine w7y (nI_nlt (by omega) (by omega)) (nI_nlt hN (by omega)) ?_
        simp only [z1, not_false_eq_true, t01, false_implies, true_and, and_true]
        refine w7n hb ?_
        simp only [z0, not_true_eq_false, t01, false_implies, true_and, and_true]
        exact hOK
    · refine w6n hb ?_
      simp only [z0, not_true_eq_false, t01, false_implies, true_and, and_true]
      refine r_isCy f2 hu (by omega) ?_
      simp only [z1, not_false_eq_true, t01, false_implies, true_and, and_true]
      refine w7n hb ?_
      simp only [z0, not_true_eq_false, t01, false_implies, true_and, and_true]
      exact hOK
  · refine c_isCn e2 hb ?_
    simp only [z0, not_true_eq_false, t01, false_implies, true_and, and_true]
    refine r_isCn f2 hb ?_
    simp only [z0, not_true_eq_false, t01, false_implies, true_and, and_true]
    exact hOK
theorem L_show {a0 a1 : Int32} {M : gh_M} {S : SS} (hC : CS M S) (hR : RS M S) : wp_X6_show a0 a1 M (fun r1 M1 => wp_X7_show a0 a1 M1 (fun r2 M2 => r1 = r2 ∧ OKn M2)) := by
  have hOK : OKn M := ⟨S, hC, hR⟩
  have hT := hC.2.2.2.2.2.2.1
  have hT2 := hR.2.2.2.2.2.1
  obtain ⟨e0, e1, e2, b0, b1, b2⟩ := hT.hd
  obtain ⟨f0, f1, f2⟩ := hT2.hd hT.ok
  unfold wp_X6_show wp_X7_show
  cases hX : S.2.2.2.2.1 with
  | none =>
    rw [hX] at e2 f0
    refine c_hasn e2 ?_
    simp only [z0, not_true_eq_false, t01, false_implies, true_and, and_true]
    refine r_hasn f0 ?_
    simp only [z0, not_true_eq_false, t01, false_implies, true_and, and_true]
    exact hOK
  | some X =>
    rw [hX] at e0 e1 e2 f0 f1 f2 b0 b1 b2
    obtain ⟨hk, -⟩ := hC.trn hX
    have o1 : 4 ≤ X.2.1.1 := hk.2.1
    have o3 := hk.2.2.2.1
    have p0 : 0 < onc (some X) := Nat.lt_of_lt_of_le (by omega) o1
    refine c_hasy e2 (by exact o3) (by omega) ?_
    simp only [z1, not_false_eq_true, t01, false_implies, true_and, and_true]
    rcases few a0 60 (by omega) with ⟨N, hN, rfl⟩ | ⟨hb, -⟩
    · refine w6y (nI_nlt (by omega) (by omega)) (nI_nlt hN (by omega)) ?_
      simp only [z1, not_false_eq_true, t01, false_implies, true_and, and_true]
      rcases few a1 2 (by omega) with ⟨w, hw, rfl⟩ | ⟨hb, -⟩
      · refine w6y (nI_nlt (by omega) (by omega)) (nI_nlt hw (by omega)) ?_
        simp only [z1, not_false_eq_true, t01, false_implies, true_and, and_true]
        unfold wp_X2_behind
        refine z_copy hC hX (fun M2 g2 z2 => z_for hN (by omega) hk.hd z2 (fun M3 T3 g3 z3 e3 => ?_))
        have g4 := g2.tr g3
        have hC3 := cs_zf hC g4 z3
        have hR3 := hR.fR g4.fR hC.n24
        have hd := z3.1.cd
        have hrun := hdk.run (T := X.1) (h := X.2) hk.hd N
        have t1 : T3 1 = nI X.2.1.2.1 := (e3 1 (by omega)).trans hrun.2.1
        have t2 : T3 2 = nI X.2.1.2.2 := (e3 2 (by omega)).trans hrun.2.2.1
        have ref : ∀ r1, (∀ M5, trd M5 X (run X.2 N X.1) → (r1 = r1 → OKn M5) → ((¬ nI w = 0 → ((¬ nI w = (nI 1) → wp_X7_allMet (nI 1917) M5 (fun r16 M17 => r1 = r16 ∧ OKn M17)) ∧ (nI w = (nI 1) → wp_X7_sumOf (nI 1917) (nI 5) M5 (fun r18 M19 => r1 = r18 ∧ OKn M19)))) ∧ (nI w = 0 → wp_X7_carsThat (nI 1917) (nI 3) M5 (fun r20 M21 => r1 = r20 ∧ OKn M21)))) → wp_X7_isTrain M3 (fun r1_1 M2 => ((¬ r1_1 = 0 → wp_X7_in (nI N) (nI 0) (nI 60) M2 (fun r4 M5 => ((r4 = 0 → r1 = (-1000001 : Int32) ∧ OKn M5) ∧ (¬ r4 = 0 → wp_X7_in (nI w) (nI 0) (nI 2) M5 (fun r7 M8 => ((¬ r7 = 0 → wp_X7_beginTry M8 (fun M11 => wp_X7_goOn (nI N) M11 (fun M13 => ((¬ nI w = 0 → ((¬ nI w = (nI 1) → wp_X7_allMet (nI 1917) M13 (fun r16 M17 => r1 = r16 ∧ OKn M17)) ∧ (nI w = (nI 1) → wp_X7_sumOf (nI 1917) (nI 5) M13 (fun r18 M19 => r1 = r18 ∧ OKn M19)))) ∧ (nI w = 0 → wp_X7_carsThat (nI 1917) (nI 3) M13 (fun r20 M21 => r1 = r20 ∧ OKn M21)))))) ∧ (r7 = 0 → r1 = (-1000001 : Int32) ∧ OKn M8))))))) ∧ (r1_1 = 0 → r1 = (-1000002 : Int32) ∧ OKn M2))) := by
          intro r1 hr1
          refine r_hasy (g4.fR 33 0 (by omega) ▸ f0) p0 (by omega) ?_
          simp only [z1, not_false_eq_true, t01, false_implies, true_and, and_true]
          refine w7y (nI_nlt (by omega) (by omega)) (nI_nlt hN (by omega)) ?_
          simp only [z1, not_false_eq_true, t01, false_implies, true_and, and_true]
          refine w7y (nI_nlt (by omega) (by omega)) (nI_nlt hw (by omega)) ?_
          simp only [z1, not_false_eq_true, t01, false_implies, true_and, and_true]
          refine r_beg hR3 hX hk (fun M4 k4 t4 => r_run hN hk.hd t4 (fun M5 k5 t5 => hr1 M5 t5 (fun _ => ⟨S, hC3.fC (k4.tr k5).fC, hR3.fs (k4.tr k5) hC.n24⟩)))
        refine ⟨fun h => c_out hd t2 b2 (ref _ (fun M5 t5 ok => ⟨fun z => absurd h z, fun _ => ?_⟩)), fun h => ⟨fun h2 => c_scr hd t2 b2 (ref _ (fun M5 t5 ok => ⟨fun _ => ⟨fun z => absurd h2 z, fun _ => ?_⟩, fun z => absurd z h⟩)), fun h2 => c_met hd t1 b1 (ref _ (fun M5 t5 ok => ⟨fun _ => ⟨fun _ => ?_, fun z => absurd z h2⟩, fun z => absurd z h⟩))⟩⟩
        · exact r_that (x := 1917) (how := 3) (by omega) t5.1 hrun.2.2.1 b2 (by omega) ⟨sbit_cong (fun k _ => sp_th_e e3), ok rfl⟩
        · exact r_sumOf (x := 1917) (f := 5) (by omega) t5.1 hrun.2.2.1 b2 (by omega) ⟨scr_e e3, ok rfl⟩
        · exact r_allMet (x := 1917) (by omega) t5.1 hrun.2.1 b1 ⟨bx_cong (fun u hu => e3 _ (by omega)), ok rfl⟩
      · refine w6n hb ?_
        simp only [z0, not_true_eq_false, t01, false_implies, true_and, and_true]
        refine r_hasy f0 p0 (by omega) ?_
        simp only [z1, not_false_eq_true, t01, false_implies, true_and, and_true]
        refine w7y (nI_nlt (by omega) (by omega)) (nI_nlt hN (by omega)) ?_
        simp only [z1, not_false_eq_true, t01, false_implies, true_and, and_true]
        refine w7n hb ?_
        simp only [z0, not_true_eq_false, t01, false_implies, true_and, and_true]
        exact hOK
    · refine w6n hb ?_
      simp only [z0, not_true_eq_false, t01, false_implies, true_and, and_true]
      refine r_hasy f0 p0 (by omega) ?_
      simp only [z1, not_false_eq_true, t01, false_implies, true_and, and_true]
      refine w7n hb ?_
      simp only [z0, not_true_eq_false, t01, false_implies, true_and, and_true]
      exact hOK
