-- TRAIN: the class reads
def kdP (x : Int32) : Nat := if x = nI 98 then 2 else if x = nI 104 then 3 else if x = nI 109 then 4 else if x = nI 111 then 5 else if x = nI 115 then 1 else 0
def kdA (n : Nat) (p : Nat → Int32) (i : Nat) : Nat := if i < n then kdP (p i) else 0
theorem kdP_le (x : Int32) : kdP x ≤ 5 := by
  unfold kdP
  repeat' split
  all_goals omega
theorem kdA_le (n : Nat) (p : Nat → Int32) (i : Nat) : kdA n p i ≤ 5 := by
  unfold kdA
  split
  · exact kdP_le _
  · omega
theorem c_kd {x : Int32} {M : gh_M} {Q : Int32 → gh_M → Prop} (hQ : Q (if kdP x = 0 then (-1 : Int32) else nI (kdP x)) M) : wp_X4_kindOfLetter x M Q := by
  unfold wp_X4_kindOfLetter
  unfold kdP at hQ
  refine ⟨fun g => ?_, fun g1 => ⟨fun g => ?_, fun g2 => ⟨fun g => ?_, fun g3 => ⟨fun g => ?_, fun g4 => ⟨fun g => ?_, fun g5 => ?_⟩⟩⟩⟩⟩
  · rw [if_pos g] at hQ; exact hQ
  · rw [if_neg g1, if_pos g] at hQ; exact hQ
  · rw [if_neg g1, if_neg g2, if_pos g] at hQ; exact hQ
  · rw [if_neg g1, if_neg g2, if_neg g3, if_pos g] at hQ; exact hQ
  · rw [if_neg g1, if_neg g2, if_neg g3, if_neg g4, if_pos g] at hQ; exact hQ
  · rw [if_neg g1, if_neg g2, if_neg g3, if_neg g4, if_neg g5] at hQ; exact hQ
theorem r_kd {x : Int32} {M : gh_M} {Q : Int32 → gh_M → Prop} (hQ : Q (nI (kdP x)) M) : wp_X7_kindOf x M Q := by
  unfold wp_X7_kindOf
  unfold kdP at hQ
  refine ⟨fun g => ?_, fun g1 => ⟨fun g => ?_, fun g2 => ⟨fun g => ?_, fun g3 => ⟨fun g => ?_, fun g4 => ⟨fun g => ?_, fun g5 => ?_⟩⟩⟩⟩⟩
  · rw [if_pos g] at hQ; exact hQ
  · rw [if_neg g1, if_pos g] at hQ; exact hQ
  · rw [if_neg g1, if_neg g2, if_pos g] at hQ; exact hQ
  · rw [if_neg g1, if_neg g2, if_neg g3, if_pos g] at hQ; exact hQ
  · rw [if_neg g1, if_neg g2, if_neg g3, if_neg g4, if_pos g] at hQ; exact hQ
  · rw [if_neg g1, if_neg g2, if_neg g3, if_neg g4, if_neg g5] at hQ; exact hQ
theorem c_nkd {M : gh_M} {n i : Nat} {p : Nat → Int32} {Q : Int32 → gh_M → Prop} (h : cR M n p (0, i)) (hQ : Q (if kdA n p i = 0 then (-1 : Int32) else nI (kdA n p i)) M) : wp_X4_next M (fun r2 M3 => wp_X4_kindOfLetter r2 M3 Q) := by
  refine c_nxt h (fun hi => c_kd ?_) (fun hi => c_kd ?_)
  · unfold kdA at hQ
    rw [if_pos hi] at hQ
    exact hQ
  · unfold kdA at hQ
    rw [if_neg hi] at hQ
    exact hQ
def trP (n : Nat) (p : Nat → Int32) (hi : Int32) (i : Nat) : Int32 × Int32 × (Nat × Nat) :=
  ((nuP n p (nI 0) hi (0, i + 1)).1, (nuP n p (nI 1) (nI 9) (sgP n p (nI 44) (nuP n p (nI 0) hi (0, i + 1)).2)).1, sgP n p (nI 59) (nuP n p (nI 1) (nI 9) (sgP n p (nI 44) (nuP n p (nI 0) hi (0, i + 1)).2)).2)
def caP (n : Nat) (p : Nat → Int32) (i : Nat) : Int32 × Int32 × Int32 × (Nat × Nat) :=
  ((nuP n p (nI 1) (nI 4) (0, i + 1)).1, (nuP n p (nI 1) (nI 60) (sgP n p (nI 44) (nuP n p (nI 1) (nI 4) (0, i + 1)).2)).1,
   (nuP n p (nI 1) (nI 3) (sgP n p (nI 44) (nuP n p (nI 1) (nI 60) (sgP n p (nI 44) (nuP n p (nI 1) (nI 4) (0, i + 1)).2)).2)).1,
   sgP n p (nI 59) (nuP n p (nI 1) (nI 3) (sgP n p (nI 44) (nuP n p (nI 1) (nI 60) (sgP n p (nI 44) (nuP n p (nI 1) (nI 4) (0, i + 1)).2)).2)).2)
theorem caP_ok {n : Nat} {p : Nat → Int32} {i : Nat} (h : (caP n p i).2.2.2.1 = 0) : ∃ k, k ≤ 3 ∧ (caP n p i).2.2.1 = nI k := by
  have h1 := sgP_ok h
  obtain ⟨-, v, -, h3, h4⟩ := nuP_val (by omega) (by omega) h1
  exact ⟨v, h3, h4⟩
abbrev RA : Type := (Nat × Nat) × (Nat × Nat × TT)
def rdF (n : Nat) (p : Nat → Int32) (hi : Int32) : Nat → Nat → Nat → Nat → TT → RA
  | 0, nt, na, i, T => ((1, i), nt, na, T)
  | f + 1, nt, na, i, T =>
    if 0 < na ∧ n ≤ i then ((0, i), nt, na, T)
    else if na = 0 ∧ kdA n p i ≠ 0 then
      (if nt = 5 then ((3, i), nt, na, T)
       else if (trP n p hi i).2.2.1 = 0 then rdF n p hi f (nt + 1) na (trP n p hi i).2.2.2 (trU T nt (nI (kdA n p i)) (trP n p hi i).1 (trP n p hi i).2.1)
       else ((trP n p hi i).2.2, nt, na, T))
    else if (i < n ∧ p i = nI 99) ∧ 0 < nt then
      (if na = 6 then ((3, i), nt, na, T)
       else if (caP n p i).2.2.2.1 = 0 then rdF n p hi f nt (na + 1) (caP n p i).2.2.2.2 (caU T na (caP n p i).1 (caP n p i).2.1 (caP n p i).2.2.1)
       else ((caP n p i).2.2.2, nt, na, T))
    else ((1, i), nt, na, T)
theorem cR.mv {M M' : gh_M} {n : Nat} {p : Nat → Int32} {s : Nat × Nat} (h : cR M n p s) (e : ∀ a, a = 4 ∨ a = 5 → M' a 0 = M a 0) : cR M' n p s := by
  obtain ⟨h0, h1, h2, h3, h4, h5, h6⟩ := h
  exact ⟨h0, by rw [e 4 (by omega)]; exact h1, fun i hi => by rw [e 5 (by omega)]; exact h2 i hi, by rw [e 4 (by omega)]; exact h3, by rw [e 4 (by omega)]; exact h4, h5, h6⟩
/-- nothing changes but the tape's state and the draft -/
def fD (M M' : gh_M) : Prop := ∀ a b, ¬ (b = 1 ∧ 6 ≤ a ∧ a ≤ 20) → a ≠ 4 → M' a b = M a b
theorem fD.f4 {A B C : gh_M} (h : fD A B) (g : fk 4 B C) : fD A C := fun a b q r => (g a b r).trans (h a b q r)
theorem fD.f1 {A B C : gh_M} (h : fD A B) (g : ft 1 B C) : fD A C := fun a b q r => (g a b q).trans (h a b q r)
theorem drC.f4 {A B : gh_M} {T : TT} {nt na : Nat} (h : drC A T nt na) (g : fk 4 A B) : drC B T nt na := by
  obtain ⟨⟨s0, s1, s2, s3, hk, hc⟩, hR, hI, hK, hb⟩ := h
  refine ⟨⟨?_, ?_, ?_, ?_, fun i hi f hf => ?_, fun c hc2 f hf => ?_⟩, ?_, fun i hi => ?_, fun c hc2 => ?_, ⟨fun i hi => ?_, fun i hi => ?_⟩⟩
  · rw [g 6 1 (by omega)]; exact s0
  · rw [g 6 1 (by omega)]; exact s1
  · rw [g 6 1 (by omega)]; exact s2
  · rw [g 6 1 (by omega)]; exact s3
  · rw [g _ 1 (by omega)]; exact hk i hi f hf
  · rw [g _ 1 (by omega)]; exact hc c hc2 f hf
  · rw [g 6 1 (by omega)]; exact hR
  · rw [g 20 1 (by omega)]; exact hI i hi
  · rw [g 19 1 (by omega)]; exact hK c hc2
  · rw [g 10 1 (by omega)]; exact hb.1 i hi
  · rw [g 18 1 (by omega)]; exact hb.2 i hi
section CL
variable {M0 : gh_M} {n nc : Nat} {p : Nat → Int32} {Q : Int32 → gh_M → Prop} {A : RA}
theorem c_cars_l {nt : Nat} (ht0 : 0 < nt) (ht : nt ≤ 5) {hi : Int32} (hQ1 : ∀ M', fD M0 M' → A.1.1 = 0 → cR M' n p A.1 → drC M' A.2.2.2 A.2.1 A.2.2.1 → drO A.2.2.2 nc A.2.1 A.2.2.1 → (1 ≤ A.2.1 ∧ A.2.1 ≤ 5 ∧ 1 ≤ A.2.2.1 ∧ A.2.2.1 ≤ 6) → Q (nI 1) M')
    (hQ0 : ∀ M', fD M0 M' → A.1.1 ≠ 0 → cR M' n p A.1 → bo M' 1 → Q (nI 0) M') :
    ∀ (f na i : Nat) (M : gh_M) (T : TT), 6 - na < f → na ≤ 6 → fD M0 M → cR M n p (0, i) → drC M T nt na → drO T nc nt na → (na = 0 → kdA n p i = 0) → rdF n p hi f nt na i T = A → wl_X4_readCars_2 1 Q f (nI na) M
  | 0, na, i, M, T, hf, _, _, _, _, _, _, _ => absurd hf (Nat.not_lt_zero _)
  | f + 1, na, i, M, T, hf, ha, hD, hR, hC, hO, hk, hA => by
    unfold rdF at hA
    have hil : i ≤ n := hR.2.2.2.2.2.1
    have h4 : M 4 0 2 = nI i := hR.2.2.2.2.1
    have hn := hR.1
    have flt : ∀ v : Nat, v ≤ 3 → v ≠ 0 → A.1 = (v, i) → wp_X4_faulty (nI v) M (fun r M' => (r &&& 1 = r ∧ Q r M')) := fun v hv hv0 e => by
      refine c_flt0 hR hv (fun M' f' h' => ⟨by decide, ?_⟩)
      exact hQ0 M' (hD.f4 f') (by rw [e]; exact hv0) (by rw [e]; exact h') (hC.f4 f').2.2.2.2
    have body : ¬ (0 < na ∧ n ≤ i) → wp_X4_next M (fun r3 M4 => ((r3 = (nI 99) → ((¬ nI na = (nI 6) → ∀ M7, M7 = (gh_st M4 4 0 2 ((M4 4 0 2) + (nI 1))) → wp_X4_readNumber (nI 1) (nI 4) M7 (fun r8 M9 => wp_X4_readSign (nI 44) M9 (fun r10 M11 => wp_X4_readNumber (nI 1) (nI 60) M11 (fun r12 M13 => wp_X4_readSign (nI 44) M13 (fun r14 M15 => wp_X4_readNumber (nI 1) (nI 3) M15 (fun r16 M17 => wp_X4_readSign (nI 59) M17 (fun r18 M19 => ((¬ r18 = 0 → wp_X5_addCar 1 r8 r12 r16 M19 (fun M22 => ∀ y2_23, y2_23 = (nI na + (nI 1)) → wl_X4_readCars_2 1 Q f y2_23 M22)) ∧ (r18 = 0 → Q (nI 0) M19))))))))) ∧ (nI na = (nI 6) → wp_X4_faulty (nI 3) M4 (fun r24 M25 => (r24 &&& 1 = r24 ∧ Q r24 M25))))) ∧ (¬ r3 = (nI 99) → wp_X4_faulty (nI 1) M4 (fun r26 M27 => (r26 &&& 1 = r26 ∧ Q r26 M27))))) := by
      intro hnd
      rw [if_neg hnd, if_neg (fun z => z.2 (hk z.1))] at hA
      refine c_nxt hR (fun hi => ⟨fun g => ⟨fun g6 => ?_, fun g6 => ?_⟩, fun g => ?_⟩) (fun hi => ⟨fun g => absurd g (by decide), fun g => ?_⟩)
      · have n6 : na ≠ 6 := fun e => g6 (by rw [e])
        rw [if_pos ⟨⟨hi, g⟩, ht0⟩, if_neg n6] at hA
        rintro _ rfl
        refine c_num (hR.at (v := i + 1) hi (by rw [h4, nI_add])) (fun M2 f2 h2 => c_sgn (by decide) h2 (fun M3 f3 h3 => c_num h3 (fun M4 f4 h4 => c_sgn (by decide) h4 (fun M5 f5 h5 => c_num h5 (fun M6 f6 h6 => c_sgn (by decide) h6 (fun M7 f7 h7 => ?_))))))
        have ff : fk 4 M M7 := ((((((fk.refl.st).tr f2).tr f3).tr f4).tr f5).tr f6).tr f7
        have hC7 := hC.f4 ff
        by_cases q : (caP n p i).2.2.2.1 = 0
        · rw [if_pos q] at hA
          have q' : (sgP n p (nI 59) (nuP n p (nI 1) (nI 3) (sgP n p (nI 44) (nuP n p (nI 1) (nI 60) (sgP n p (nI 44) (nuP n p (nI 1) (nI 4) (0, i + 1)).2)).2)).2).1 = 0 := q
          rw [if_pos q']
          refine ⟨fun _ => ?_, fun g => absurd g (by decide)⟩
          obtain ⟨k, hk3, ek⟩ := caP_ok q
          refine c_addC hC7 hO.2.2.1 (hO.2.2.2.2.2.2 na (by omega)) (by omega) ht (fun M8 f8 h8 => ?_)
          rintro _ rfl
          rw [nI_add]
          have hO' : drO (caU T na (caP n p i).1 (caP n p i).2.1 (caP n p i).2.2.1) nc nt (na + 1) := by rw [ek]; exact hO.ca (by omega) ht hk3
          refine c_cars_l ht0 ht hQ1 hQ0 f (na + 1) (caP n p i).2.2.2.2 M8 _ (by omega) (by omega) ((hD.f4 ff).f1 f8) ?_ h8 hO' (fun z => by omega) hA
          have := h7.mv (M' := M8) (fun a q => f8 a 0 (by omega))
          have e : sgP n p (nI 59) (nuP n p (nI 1) (nI 3) (sgP n p (nI 44) (nuP n p (nI 1) (nI 60) (sgP n p (nI 44) (nuP n p (nI 1) (nI 4) (0, i + 1)).2)).2)).2 = (0, (caP n p i).2.2.2.2) := Prod.ext q' rfl
          rw [e] at this
          exact this
        · rw [if_neg q] at hA
          have q' : ¬ (sgP n p (nI 59) (nuP n p (nI 1) (nI 3) (sgP n p (nI 44) (nuP n p (nI 1) (nI 60) (sgP n p (nI 44) (nuP n p (nI 1) (nI 4) (0, i + 1)).2)).2)).2).1 = 0 := q
          rw [if_neg q']
          refine ⟨fun g => absurd rfl g, fun _ => hQ0 M7 (hD.f4 ff) (by rw [← hA]; exact q) (by rw [← hA]; exact h7) hC7.2.2.2.2⟩
      · have n6 : na = 6 := zb_nI_inj g6 (by omega) (by omega)
        rw [if_pos ⟨⟨hi, g⟩, ht0⟩, if_pos n6] at hA
        exact flt 3 (by omega) (by omega) (by rw [← hA])
      · rw [if_neg (fun z => g z.1.2)] at hA
        exact flt 1 (by omega) (by omega) (by rw [← hA])
      · rw [if_neg (fun z => hi z.1.1)] at hA
        exact flt 1 (by omega) (by omega) (by rw [← hA])
    unfold wl_X4_readCars_2
    refine ⟨fun g => absurd g (nI_nlt ha (by omega)), fun _ => ⟨fun g => ?_, fun g => ?_⟩⟩
    · have : na = 0 := Nat.eq_zero_of_not_pos (fun e => nI_nle e (by omega) g)
      exact body (by omega)
    · have hna : 0 < na := Nat.pos_of_ne_zero (fun e => g (by rw [e]; exact Int32.le_refl _))
      rw [h4, hR.2.1]
      refine ⟨fun g2 => body (fun z => ?_), fun g2 => ?_⟩
      · have := (nI_ltI (by omega) (by omega)).mp g2
        omega
      · have g2 : n ≤ i := Nat.le_of_not_lt (fun e => g2 (nI_lt e (by omega)))
        rw [if_pos ⟨hna, g2⟩] at hA
        subst hA
        exact hQ1 M hD rfl hR hC hO ⟨ht0, ht, hna, ha⟩
theorem c_tricks_l {hi : Int32} (hhi : hi = nI nc - nI 1) (hQ1 : ∀ (f nt i : Nat) (M' : gh_M) (T : TT), 0 < nt → nt ≤ 5 → 6 < f → fD M0 M' → cR M' n p (0, i) → drC M' T nt 0 → drO T nc nt 0 → kdA n p i = 0 → rdF n p hi f nt 0 i T = A → Q (nI 1) M')
    (hQ0 : ∀ M', fD M0 M' → A.1.1 ≠ 0 → cR M' n p A.1 → bo M' 1 → Q (nI 0) M') :
    ∀ (f nt i : Nat) (M : gh_M) (T : TT), (5 - nt) + 6 < f → nt ≤ 5 → fD M0 M → cR M n p (0, i) → drC M T nt 0 → drO T nc nt 0 → rdF n p hi f nt 0 i T = A → wl_X4_readTricks_2 1 Q f (nI nt) M
  | 0, nt, i, M, T, hf, _, _, _, _, _, _ => absurd hf (Nat.not_lt_zero _)
  | f + 1, nt, i, M, T, hf, ha, hD, hR, hC, hO, hA => by
    have hA0 := hA
    unfold rdF at hA
    rw [if_neg (by omega)] at hA
    have hil : i ≤ n := hR.2.2.2.2.2.1
    have h4 : M 4 0 2 = nI i := hR.2.2.2.2.1
    have hn := hR.1
    unfold wl_X4_readTricks_2
    refine ⟨fun g => absurd g (nI_nlt ha (by omega)), fun _ => c_nkd hR ?_⟩
    have k5 := kdA_le n p i
    by_cases q : kdA n p i = 0
    · rw [if_pos q]
      refine ⟨fun g => absurd rfl g, fun _ => ⟨fun g => ?_, fun g => ?_⟩⟩
      · have g : 0 < nt := Nat.pos_of_ne_zero (fun e => by rw [e] at g; exact absurd g (by decide))
        exact hQ1 (f + 1) nt i M T g ha (by omega) hD hR hC hO q hA0
      · have g : nt = 0 := Nat.eq_zero_of_not_pos (fun e => g (Int32.not_le.mp (nI_nle e (by omega))))
        rw [if_neg (fun z => z.2 q), if_neg (fun z => by omega)] at hA
        refine c_flt0 hR (by omega) (fun M' f' h' => ⟨fun _ => ?_, fun g => absurd rfl g⟩)
        exact hQ0 M' (hD.f4 f') (by rw [← hA]; exact (by decide : (1 : Nat) ≠ 0)) (by rw [← hA]; exact h') (hC.f4 f').2.2.2.2
    · rw [if_neg q]
      rw [if_pos ⟨rfl, q⟩] at hA
      have hin : i < n := by
        refine Nat.lt_of_not_le (fun e => q ?_)
        unfold kdA
        rw [if_neg (by omega)]
      refine ⟨fun _ => ⟨fun g5 => ?_, fun g5 => ?_⟩, fun g => absurd g (nI_m1 (by omega))⟩
      · have n5 : nt ≠ 5 := fun e => g5 (by rw [e])
        rw [if_neg n5] at hA
        rintro _ rfl
        rw [zb_k _ _ _ _ _ _ (by omega), hC.1.1, hO.1, ← hhi]
        refine c_num (hR.at (v := i + 1) hin (by rw [h4, nI_add])) (fun M2 f2 h2 => c_sgn (by decide) h2 (fun M3 f3 h3 => c_num h3 (fun M4 f4 h4 => c_sgn (by decide) h4 (fun M5 f5 h5 => ?_))))
        have ff : fk 4 M M5 := ((((fk.refl.st).tr f2).tr f3).tr f4).tr f5
        have hC5 := hC.f4 ff
        by_cases q2 : (trP n p hi i).2.2.1 = 0
        · rw [if_pos q2] at hA
          have q' : (sgP n p (nI 59) (nuP n p (nI 1) (nI 9) (sgP n p (nI 44) (nuP n p (nI 0) hi (0, i + 1)).2)).2).1 = 0 := q2
          rw [if_pos q']
          refine ⟨fun _ => ?_, fun g => absurd g (by decide)⟩
          refine c_addT hC5 hO.2.1 (by omega) (by omega) (fun M8 f8 h8 => ?_)
          rintro _ rfl
          rw [nI_add]
          refine c_tricks_l hhi hQ1 hQ0 f (nt + 1) (trP n p hi i).2.2.2 M8 _ (by omega) (by omega) ((hD.f4 ff).f1 f8) ?_ h8 (hO.tr (by omega) (by omega)) hA
          have := h5.mv (M' := M8) (fun a q => f8 a 0 (by omega))
          have e : sgP n p (nI 59) (nuP n p (nI 1) (nI 9) (sgP n p (nI 44) (nuP n p (nI 0) hi (0, i + 1)).2)).2 = (0, (trP n p hi i).2.2.2) := Prod.ext q' rfl
          rw [e] at this
          exact this
        · rw [if_neg q2] at hA
          have q' : ¬ (sgP n p (nI 59) (nuP n p (nI 1) (nI 9) (sgP n p (nI 44) (nuP n p (nI 0) hi (0, i + 1)).2)).2).1 = 0 := q2
          rw [if_neg q']
          refine ⟨fun g => absurd rfl g, fun _ => hQ0 M5 (hD.f4 ff) (by rw [← hA]; exact q2) (by rw [← hA]; exact h5) hC5.2.2.2.2⟩
      · have n5 : nt = 5 := zb_nI_inj g5 (by omega) (by omega)
        rw [if_pos n5] at hA
        refine c_flt0 hR (by omega) (fun M' f' h' => ⟨by decide, ?_⟩)
        exact hQ0 M' (hD.f4 f') (by rw [← hA]; exact (by decide : (3 : Nat) ≠ 0)) (by rw [← hA]; exact h') (hC.f4 f').2.2.2.2
end CL
