-- TRAIN: the reference reads
theorem fq.fs {M M' : gh_M} (h : fq M M') : fs M M' := fun a b i _ q _ => h a b i (by omega)
theorem fs.r33 {A B : gh_M} (h : fs A B) {j : Nat} {v : Int32} (hj : 1917 ≤ j) : fs A (gh_st B 33 0 j v) := fun a b i q1 q2 q3 => by rw [zb_st, if_neg (by omega)]; exact h a b i q1 q2 q3
theorem fs.r16 {A B : gh_M} (h : fs A B) {v : Int32} : fs A (gh_st B 32 0 16 v) := fun a b i q1 q2 q3 => by rw [zb_st, if_neg (by omega)]; exact h a b i q1 q2 q3
theorem rr.s33 {M : gh_M} {T : TT} (h : rr M 1917 T) {q j : Nat} {v : Int32} (hq : q = 1917 + j) : rr (gh_st M 33 0 q v) 1917 (upd T j v) := fun i hi => by
  subst hq
  by_cases e : i = j
  · subst e; rw [zb_s, pk_us]
  · rw [zb_j _ _ _ _ (by omega), pk_un e]; exact h i hi
theorem rr.q {M M' : gh_M} {T : TT} (h : rr M 1917 T) (f : fq M M') : rr M' 1917 T := fun i hi => by rw [f 33 0 _ (by omega)]; exact h i hi
theorem rr.s32 {M : gh_M} {T : TT} {j : Nat} {v : Int32} (h : rr M 1917 T) : rr (gh_st M 32 0 j v) 1917 T := fun i hi => by rw [zb_k _ _ _ _ _ _ (by omega)]; exact h i hi
theorem rR.s33 {M : gh_M} {n : Nat} {p : Nat → Int32} {s : Nat × Nat} (h : rR M n p s) {j : Nat} {v : Int32} : rR (gh_st M 33 0 j v) n p s := h.mv (fun a i q => by rw [zb_k _ _ _ _ _ _ (by omega)])
theorem rR.at {M : gh_M} {n i : Nat} {p : Nat → Int32} (h : rR M n p (0, i)) (hi : i < n) : rR (gh_st M 32 0 16 ((M 32 0 16) + nI 1)) n p (0, i + 1) := by
  obtain ⟨h0, h1, h2, h3, h4, h5, h6, h7⟩ := h
  refine ⟨h0, ?_, fun i hi => ?_, ?_, fun _ => ?_, fun q => absurd rfl q, hi, by show (0 : Nat) ≤ 3; omega⟩
  · rw [zb_j _ _ _ _ (by omega)]; exact h1
  · rw [zb_k _ _ _ _ _ _ (by omega)]; exact h2 i hi
  · rw [zb_j _ _ _ _ (by omega)]; exact h3
  · rw [zb_s, h4 rfl, nI_add]
section RL
variable {M : gh_M} {n nc nt na i : Nat} {p : Nat → Int32} {T : TT} {Q : gh_M → Prop}
theorem r_failAt {v : Nat} (h : rR M n p (0, i)) (hv : v ≤ 3) (hv0 : v ≠ 0) (hQ : ∀ M', fq M M' → rR M' n p (v, i) → Q M') : wp_X7_fail (nI v) (M 32 0 16) M Q := by
  obtain ⟨h0, h1, h2, h3, h4, h5, h6, h7⟩ := h
  rw [h4 rfl]
  exact r_fail0 h0 h1 h2 h3 fq.refl h3 h6 hv hv0 hQ
theorem kdH : kdP (if i < n then p i else nI 0) = kdA n p i := by
  unfold kdA
  by_cases q : i < n
  · rw [if_pos q, if_pos q]
  · rw [if_neg q, if_neg q]; decide
theorem r_trick (h : rR M n p (0, i)) (hr : rr M 1917 T) (hO : drO T nc nt na) (ht : nt < 5) (hin : i < n) {hi : Int32} (hhi : hi = nI nc - nI 1) (hQ : ∀ M' v g, fs M M' → rR M' n p (trP n p hi i).2.2 → rr M' 1917 (trU T nt (nI (kdA n p i)) v g) → ((trP n p hi i).2.2.1 = 0 → v = (trP n p hi i).1 ∧ g = (trP n p hi i).2.1) → Q M') : wp_X7_readTrick M Q := by
  unfold wp_X7_readTrick
  refine ⟨vp_in_nI (by omega) (by omega), ?_⟩
  rintro _ rfl
  rw [nI_clamp (by omega), hr.at1 (i := 1) (by omega) rfl, hO.2.1]
  refine ⟨fun _ => ?_, fun g => absurd (zb_nI_inj g (by omega) (by omega)) (by omega)⟩
  unfold wp_X7_trickAt
  rw [nI_add, pk_mul, nI_add]
  refine r_here h (r_kd ?_)
  rw [kdH]
  simp (disch := omega) only [nI_add, nI_clamp, zb_in, true_and]
  rintro M1 e1 M2 e2
  have r1 : rR M1 n p (0, i) := by rw [e1]; exact h.s33
  have t1 : rr M1 1917 (upd T (4 + 5 * nt) (nI (kdA n p i))) := by rw [e1]; exact hr.s33 (by omega)
  have r2 : rR M2 n p (0, i + 1) := by rw [e2]; exact r1.at hin
  have t2 : rr M2 1917 (upd T (4 + 5 * nt) (nI (kdA n p i))) := by rw [e2]; exact t1.s32
  have f2 : fs M M2 := by rw [e2, e1]; exact (fs.refl.r33 (by omega)).r16
  rw [t2.at1 (i := 0) (by omega) rfl, pk_un (by omega), hO.1, ← hhi]
  refine r_num r2 (fun v M3 q3 r3 v3 => ?_)
  rintro M4 e4
  have r4 : rR M4 n p (nuP n p (nI 0) hi (0, i + 1)).2 := by rw [e4]; exact r3.s33
  have t4 := (t2.q q3).s33 (q := 1917 + 4 + 5 * nt + 1) (j := 4 + 5 * nt + 1) (v := v) (by omega)
  rw [← e4] at t4
  have f4 : fs M M4 := by rw [e4]; exact (f2.tr q3.fs).r33 (by omega)
  refine r_sgn (by decide) r4 (fun M5 q5 r5 => r_num r5 (fun g M6 q6 r6 v6 => ?_))
  rintro M7 e7
  have r7 : rR M7 n p (nuP n p (nI 1) (nI 9) (sgP n p (nI 44) (nuP n p (nI 0) hi (0, i + 1)).2)).2 := by rw [e7]; exact r6.s33
  have t7 := ((t4.q q5).q q6).s33 (q := 1917 + 4 + 5 * nt + 2) (j := 4 + 5 * nt + 2) (v := g) (by omega)
  rw [← e7] at t7
  have f7 : fs M M7 := by rw [e7]; exact ((f4.tr q5.fs).tr q6.fs).r33 (by omega)
  refine r_sgn (by decide) r7 (fun M8 q8 r8 => ?_)
  rintro M9 e9 M10 e10 M11 e11
  have t9 := (t7.q q8).s33 (q := 1917 + 4 + 5 * nt + 3) (j := 4 + 5 * nt + 3) (v := nI 1) (by omega)
  rw [← e9] at t9
  have t10 := t9.s33 (q := 1917 + 4 + 5 * nt + 4) (j := 4 + 5 * nt + 4) (v := nI 0) (by omega)
  rw [← e10] at t10
  have e1918 : M10 33 0 1918 = nI nt := by
    rw [t10.at1 (i := 1) (by omega) rfl, pk_un (by omega), pk_un (by omega), pk_un (by omega), pk_un (by omega), pk_un (by omega)]
    exact hO.2.1
  rw [e1918, nI_add] at e11
  have t11 := t10.s33 (q := 1918) (j := 1) (v := nI (nt + 1)) (by omega)
  rw [← e11] at t11
  refine hQ M11 v g ?_ ?_ t11 (fun ok => ?_)
  · rw [e11, e10, e9]; exact (((f7.tr q8.fs).r33 (by omega)).r33 (by omega)).r33 (by omega)
  · rw [e11, e10, e9]; exact r8.s33.s33.s33
  · have o1 := sgP_ok ok
    have o2 := (nuP_ok o1).1
    have o3 := sgP_ok o2
    exact ⟨v3 o3, v6 o1⟩
theorem r_car (h : rR M n p (0, i)) (hr : rr M 1917 T) (hO : drO T nc nt na) (ha : na < 6) (hin : i < n) (hQ : ∀ M' a b c, fs M M' → rR M' n p (caP n p i).2.2.2 → rr M' 1917 (caU T na a b c) → ((caP n p i).2.2.2.1 = 0 → a = (caP n p i).1 ∧ b = (caP n p i).2.1 ∧ c = (caP n p i).2.2.1) → Q M') : wp_X7_readCar M Q := by
  unfold wp_X7_readCar
  refine ⟨vp_in_nI (by omega) (by omega), ?_⟩
  rintro _ rfl
  rw [nI_clamp (by omega), hr.at1 (i := 2) (by omega) rfl, hO.2.2.1]
  refine ⟨fun _ => ?_, fun g => absurd (zb_nI_inj g (by omega) (by omega)) (by omega)⟩
  unfold wp_X7_carAt
  rw [nI_add, pk_mul, nI_add]
  simp (disch := omega) only [nI_add, nI_clamp, zb_in, true_and]
  rintro M2 e2
  have r2 : rR M2 n p (0, i + 1) := by rw [e2]; exact h.at hin
  have t2 : rr M2 1917 T := by rw [e2]; exact hr.s32
  have f2 : fs M M2 := by rw [e2]; exact fs.refl.r16
  refine r_num r2 (fun a M3 q3 r3 v3 => ?_)
  rintro M4 e4
  have r4 : rR M4 n p (nuP n p (nI 1) (nI 4) (0, i + 1)).2 := by rw [e4]; exact r3.s33
  have t4 := (t2.q q3).s33 (q := 1917 + 29 + 7 * na) (j := 29 + 7 * na) (v := a) (by omega)
  rw [← e4] at t4
  have f4 : fs M M4 := by rw [e4]; exact (f2.tr q3.fs).r33 (by omega)
  refine r_sgn (by decide) r4 (fun M5 q5 r5 => r_num r5 (fun b M6 q6 r6 v6 => ?_))
  rintro M7 e7
  have r7 : rR M7 n p (nuP n p (nI 1) (nI 60) (sgP n p (nI 44) (nuP n p (nI 1) (nI 4) (0, i + 1)).2)).2 := by rw [e7]; exact r6.s33
  have t7 := ((t4.q q5).q q6).s33 (q := 1917 + 29 + 7 * na + 1) (j := 29 + 7 * na + 1) (v := b) (by omega)
  rw [← e7] at t7
  have f7 : fs M M7 := by rw [e7]; exact ((f4.tr q5.fs).tr q6.fs).r33 (by omega)
  refine r_sgn (by decide) r7 (fun M8 q8 r8 => r_num r8 (fun c M9 q9 r9 v9 => ?_))
  rintro M10 e10
  have r10 : rR M10 n p (nuP n p (nI 1) (nI 3) (sgP n p (nI 44) (nuP n p (nI 1) (nI 60) (sgP n p (nI 44) (nuP n p (nI 1) (nI 4) (0, i + 1)).2)).2)).2 := by rw [e10]; exact r9.s33
  have t10 := ((t7.q q8).q q9).s33 (q := 1917 + 29 + 7 * na + 2) (j := 29 + 7 * na + 2) (v := c) (by omega)
  rw [← e10] at t10
  have f10 : fs M M10 := by rw [e10]; exact ((f7.tr q8.fs).tr q9.fs).r33 (by omega)
  refine r_sgn (by decide) r10 (fun M11 q11 r11 => ?_)
  rintro M12 e12 M13 e13
  have t12 := (t10.q q11).s33 (q := 1917 + 29 + 7 * na + 3) (j := 29 + 7 * na + 3) (v := nI 20) (by omega)
  rw [← e12] at t12
  have e1919 : M12 33 0 1919 = nI na := by
    rw [t12.at1 (i := 2) (by omega) rfl, pk_un (by omega), pk_un (by omega), pk_un (by omega), pk_un (by omega)]
    exact hO.2.2.1
  rw [e1919, nI_add] at e13
  have t13 := t12.s33 (q := 1919) (j := 2) (v := nI (na + 1)) (by omega)
  rw [← e13] at t13
  refine hQ M13 a b c ?_ ?_ t13 (fun ok => ?_)
  · rw [e13, e12]; exact ((f10.tr q11.fs).r33 (by omega)).r33 (by omega)
  · rw [e13, e12]; exact r11.s33.s33
  · have o1 := sgP_ok ok
    have o2 := (nuP_ok o1).1
    have o3 := sgP_ok o2
    have o4 := (nuP_ok o3).1
    have o5 := sgP_ok o4
    exact ⟨v3 o5, v6 o3, v9 o1⟩
end RL
/-- does the reference go on? -/
def tlR (Q : gh_M → Prop) (f : Nat) (M : gh_M) : Prop := wp_X7_fine M (fun r22 M23 => ((r22 = 0 → wl_X7_readAll_32 Q f (nI 0) M23) ∧ (¬ r22 = 0 → (((M23 32 0 16) < (M23 32 0 8) → wl_X7_readAll_32 Q f (nI 1) M23) ∧ (¬ (M23 32 0 16) < (M23 32 0 8) → (vp_in (nI 1919) 1988 ∧ ((¬ (M23 33 0 (nI 1919).toNatClampNeg) = 0 → wl_X7_readAll_32 Q f (nI 0) M23) ∧ ((M23 33 0 (nI 1919).toNatClampNeg) = 0 → wl_X7_readAll_32 Q f (nI 1) M23))))))))
section RM
variable {M0 : gh_M} {n nc : Nat} {p : Nat → Int32} {Q : gh_M → Prop} {A : RA}
theorem wl32_0 {f : Nat} {M : gh_M} (h : Q M) : wl_X7_readAll_32 Q (f + 1) (nI 0) M := by
  unfold wl_X7_readAll_32
  exact ⟨fun _ => h, fun g => absurd rfl g⟩
theorem r_tl1 {M : gh_M} {s : Nat × Nat} {f : Nat} (h : rR M n p s) (h0 : s.1 ≠ 0) (hQ : Q M) : tlR Q (f + 1) M := by
  unfold tlR
  refine r_fine h ?_
  rw [if_neg h0]
  exact ⟨fun _ => wl32_0 hQ, fun g => absurd rfl g⟩
theorem r_loop {hi : Int32} (hhi : hi = nI nc - nI 1) (hQ : ∀ M', fs M0 M' → rR M' n p A.1 → (A.1.1 = 0 → rr M' 1917 A.2.2.2) → Q M') :
    ∀ (f nt na i : Nat) (M : gh_M) (T : TT), (5 - nt) + (6 - na) < f → nt ≤ 5 → na ≤ 6 → fs M0 M → rR M n p (0, i) → rr M 1917 T → drO T nc nt na → ¬ (0 < na ∧ n ≤ i) → rdF n p hi f nt na i T = A → wl_X7_readAll_32 Q (f + 1) (nI 1) M
  | 0, nt, na, i, M, T, hf, _, _, _, _, _, _, _, _ => absurd hf (Nat.not_lt_zero _)
  | f + 1, nt, na, i, M, T, hf, ht, ha, hS, hR, hr, hO, hnd, hA => by
    unfold rdF at hA
    rw [if_neg hnd] at hA
    have hil : i ≤ n := hR.2.2.2.2.2.2.1
    have hn := hR.1
    have e1918 : M 33 0 1918 = nI nt := by rw [hr.at1 (i := 1) (by omega) rfl]; exact hO.2.1
    have e1919 : M 33 0 1919 = nI na := by rw [hr.at1 (i := 2) (by omega) rfl]; exact hO.2.2.1
    -- a step that goes well
    have tl2 : ∀ (nt' na' i' : Nat) (M' : gh_M) (T' : TT), (5 - nt') + (6 - na') < f → nt' ≤ 5 → na' ≤ 6 → fs M0 M' → rR M' n p (0, i') → rr M' 1917 T' → drO T' nc nt' na' → rdF n p hi f nt' na' i' T' = A → tlR Q (f + 1) M' := by
      intro nt' na' i' M' T' q1 q2 q3 q4 q5 q6 q7 q8
      have g1919 : M' 33 0 1919 = nI na' := by rw [q6.at1 (i := 2) (by omega) rfl]; exact q7.2.2.1
      have g16 : M' 32 0 16 = nI i' := q5.2.2.2.2.1 rfl
      have gi : i' ≤ n := q5.2.2.2.2.2.2.1
      have go : ¬ (0 < na' ∧ n ≤ i') → wl_X7_readAll_32 Q (f + 1) (nI 1) M' := fun nd => r_loop hhi hQ f nt' na' i' M' T' q1 q2 q3 q4 q5 q6 q7 nd q8
      unfold tlR
      refine r_fine q5 ?_
      rw [if_pos rfl]
      refine ⟨fun g => absurd g (by decide), fun _ => ?_⟩
      rw [g16, q5.2.1, nI_clamp (by omega), g1919]
      refine ⟨fun g => go ?_, fun g => ⟨vp_in_nI (by omega) (by omega), fun g2 => ?_, fun g2 => go ?_⟩⟩
      · have := (nI_ltI (by omega) (by omega)).mp g
        omega
      · have g' : n ≤ i' := Nat.le_of_not_lt (fun e => g (nI_lt e (by omega)))
        have g2' : 0 < na' := Nat.pos_of_ne_zero (fun e => g2 (by rw [e]; rfl))
        refine wl32_0 (hQ M' q4 ?_ ?_)
        · have : A.1 = (0, i') := by
            rw [← q8]
            obtain ⟨f', rfl⟩ : ∃ f', f = f' + 1 := ⟨f - 1, by omega⟩
            unfold rdF
            rw [if_pos ⟨g2', g'⟩]
          rw [this]; exact q5
        · have : A.2.2.2 = T' := by
            rw [← q8]
            obtain ⟨f', rfl⟩ : ∃ f', f = f' + 1 := ⟨f - 1, by omega⟩
            unfold rdF
            rw [if_pos ⟨g2', g'⟩]
          rw [this]; exact fun _ => q6
      · have g2 : na' = 0 := zb_nI_inj g2 (by omega) (by omega)
        omega
    have flt : ∀ v : Nat, v ≤ 3 → v ≠ 0 → A.1 = (v, i) → wp_X7_fail (nI v) (M 32 0 16) M (fun M' => tlR Q (f + 1) M') := fun v hv hv0 e =>
      r_failAt hR hv hv0 (fun M' q h => r_tl1 h hv0 (hQ M' (hS.tr q.fs) (by rw [e]; exact h) (fun z => absurd (by rw [e] at z; exact z) hv0)))
    -- the car's branch
    have car : ¬ (na = 0 ∧ kdA n p i ≠ 0) → wp_X7_here M (fun r17 M18 => ((¬ r17 = (nI 99) → wp_X7_fail (nI 1) (M18 32 0 16) M18 (fun M21 => tlR Q (f + 1) M21)) ∧ (r17 = (nI 99) → (vp_in (nI 1918) 1988 ∧ (((M18 33 0 (nI 1918).toNatClampNeg) ≤ 0 → wp_X7_fail (nI 1) (M18 32 0 16) M18 (fun M31 => tlR Q (f + 1) M31)) ∧ (¬ (M18 33 0 (nI 1918).toNatClampNeg) ≤ 0 → wp_X7_readCar M18 (fun M39 => tlR Q (f + 1) M39))))))) := by
      intro hnk
      rw [if_neg hnk] at hA
      refine r_here hR ?_
      rw [nI_clamp (by omega), e1918]
      have h99 : (if i < n then p i else nI 0) = nI 99 ↔ (i < n ∧ p i = nI 99) := by
        by_cases q : i < n
        · rw [if_pos q]; exact ⟨fun e => ⟨q, e⟩, fun e => e.2⟩
        · rw [if_neg q]; exact ⟨fun e => absurd e (by decide), fun e => absurd e.1 q⟩
      rw [h99]
      refine ⟨fun g => ?_, fun g => ⟨vp_in_nI (by omega) (by omega), fun g2 => ?_, fun g2 => ?_⟩⟩
      · rw [if_neg (fun z => g z.1)] at hA
        exact flt 1 (by omega) (by omega) (by rw [← hA])
      · have g2 : ¬ 0 < nt := fun e => nI_nle e (by omega) g2
        rw [if_neg (fun z => g2 z.2)] at hA
        exact flt 1 (by omega) (by omega) (by rw [← hA])
      · have g2 : 0 < nt := Nat.pos_of_ne_zero (fun e => g2 (by rw [e]; exact Int32.le_refl _))
        rw [if_pos ⟨g, g2⟩] at hA
        by_cases q6 : na = 6
        · rw [if_pos q6] at hA
          unfold wp_X7_readCar
          refine ⟨vp_in_nI (by omega) (by omega), ?_⟩
          rintro _ rfl
          rw [nI_clamp (by omega), e1919, q6]
          exact ⟨fun z => absurd rfl z, fun _ => flt 3 (by omega) (by omega) (by rw [← hA])⟩
        · rw [if_neg q6] at hA
          refine r_car hR hr hO (by omega) g.1 (fun M' a b c f' r' t' v' => ?_)
          by_cases ok : (caP n p i).2.2.2.1 = 0
          · rw [if_pos ok] at hA
            obtain ⟨rfl, rfl, rfl⟩ := v' ok
            obtain ⟨k, hk3, ek⟩ := caP_ok ok
            have hO' : drO (caU T na (caP n p i).1 (caP n p i).2.1 (caP n p i).2.2.1) nc nt (na + 1) := by rw [ek]; exact hO.ca (by omega) ht hk3
            have e : (caP n p i).2.2.2 = (0, (caP n p i).2.2.2.2) := Prod.ext ok rfl
            rw [e] at r'
            exact tl2 nt (na + 1) _ M' _ (by omega) ht (by omega) (hS.tr f') r' t' hO' hA
          · rw [if_neg ok] at hA
            exact r_tl1 r' ok (hQ M' (hS.tr f') (by rw [← hA]; exact r') (fun z => absurd (by rw [← hA] at z; exact z) ok))
    have k5 := kdA_le n p i
    unfold wl_X7_readAll_32
    refine ⟨fun g => absurd g (by decide), fun _ => r_here hR (r_kd ?_)⟩
    rw [kdH]
    refine ⟨fun g => ?_, fun g => ⟨vp_in_nI (by omega) (by omega), fun g2 => ?_, fun g2 => ?_⟩⟩
    · have q : kdA n p i = 0 := Nat.eq_zero_of_not_pos (fun e => nI_nle e (by omega) g)
      exact car (fun z => z.2 q)
    · rw [nI_clamp (by omega), e1919] at g2
      exact car (fun z => g2 (by rw [z.1]; rfl))
    · rw [nI_clamp (by omega), e1919] at g2
      have n0 : na = 0 := zb_nI_inj g2 (by omega) (by omega)
      have q : kdA n p i ≠ 0 := fun e => g (by rw [e]; exact Int32.le_refl _)
      rw [if_pos ⟨n0, q⟩] at hA
      have hin : i < n := by
        refine Nat.lt_of_not_le (fun e => q ?_)
        unfold kdA
        rw [if_neg (by omega)]
      by_cases q5 : nt = 5
      · rw [if_pos q5] at hA
        unfold wp_X7_readTrick
        refine ⟨vp_in_nI (by omega) (by omega), ?_⟩
        rintro _ rfl
        rw [nI_clamp (by omega), e1918, q5]
        exact ⟨fun z => absurd rfl z, fun _ => flt 3 (by omega) (by omega) (by rw [← hA])⟩
      · rw [if_neg q5] at hA
        refine r_trick hR hr hO (by omega) hin hhi (fun M' v g f' r' t' v' => ?_)
        by_cases ok : (trP n p hi i).2.2.1 = 0
        · rw [if_pos ok] at hA
          obtain ⟨rfl, rfl⟩ := v' ok
          have e : (trP n p hi i).2.2 = (0, (trP n p hi i).2.2.2) := Prod.ext ok rfl
          rw [e] at r'
          exact tl2 (nt + 1) na _ M' _ (by omega) (by omega) ha (hS.tr f') r' t' (hO.tr (by omega) (by omega)) hA
        · rw [if_neg ok] at hA
          exact r_tl1 r' ok (hQ M' (hS.tr f') (by rw [← hA]; exact r') (fun z => absurd (by rw [← hA] at z; exact z) ok))
end RM
