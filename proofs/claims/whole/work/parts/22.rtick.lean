-- THE REFERENCE'S TICK
def rr (M : gh_M) (x : Nat) (T : TT) : Prop := ∀ i, i < 71 → M 33 0 (x + i) = T i
theorem rr.a1 {M : gh_M} {x : Nat} {T : TT} (h : rr M x T) {a : Nat} (hi : a < 71) : M 33 0 (x + a) = T a := h a hi
theorem rr.a2 {M : gh_M} {x : Nat} {T : TT} (h : rr M x T) {a b : Nat} (hi : a + b < 71) : M 33 0 (x + a + b) = T (a + b) := by rw [Nat.add_assoc]; exact h _ hi
theorem rr.a3 {M : gh_M} {x : Nat} {T : TT} (h : rr M x T) {a b c : Nat} (hi : a + b + c < 71) : M 33 0 (x + a + b + c) = T (a + b + c) := by rw [Nat.add_assoc, Nat.add_assoc, ← Nat.add_assoc a b c]; exact h _ hi
/-- howls: of each car and of all, as they grow with the screams -/
def rh (M : gh_M) (T : TT) (S0 : Nat → Int32) (h0 : Int32) (na : Nat) : Prop := (∀ c, c < 6 → M 36 0 c = T (29 + 7 * c + 5) - S0 c) ∧ M 32 0 5 = h0 + bx_sum (fun c => T (29 + 7 * c + 5)) na
/-- nothing else changes -/
def rf (x : Nat) (M M' : gh_M) : Prop := ∀ a b i, ¬ (a = 33 ∧ b = 0 ∧ x ≤ i ∧ i < x + 71) → ¬ (a = 32 ∧ b = 0 ∧ i = 5) → ¬ (a = 36 ∧ b = 0) → M' a b i = M a b i
def rx (M0 : gh_M) (x na : Nat) (S0 : Nat → Int32) (h0 : Int32) (M : gh_M) (T : TT) : Prop := rr M x T ∧ rh M T S0 h0 na ∧ rf x M0 M
theorem rf.refl {x : Nat} {M : gh_M} : rf x M M := fun _ _ _ _ _ _ => rfl
theorem rf.tr {x : Nat} {A B C : gh_M} (h : rf x A B) (g : rf x B C) : rf x A C := fun a b i h1 h2 h3 => (g a b i h1 h2 h3).trans (h a b i h1 h2 h3)
theorem rr.st {M : gh_M} {x : Nat} {T : TT} (h : rr M x T) {q i : Nat} {v : Int32} (hq : q = x + i) : rr (gh_st M 33 0 q v) x (upd T i v) := by
  subst hq
  intro j hj
  rw [zb_st, zb_upd]
  by_cases e : j = i
  · subst e
    rw [if_pos ⟨rfl, rfl, rfl⟩, if_pos rfl]
  · rw [if_neg (by omega), if_neg e]
    exact h j hj
theorem bx_cong {f g : Nat → Int32} : ∀ {n : Nat}, (∀ c, c < n → f c = g c) → bx_sum f n = bx_sum g n
  | 0, _ => rfl
  | n + 1, h => by
    show bx_sum f n + f n = bx_sum g n + g n
    rw [bx_cong (fun c hc => h c (by omega)), h n (by omega)]
theorem rx.st {M0 M : gh_M} {x na : Nat} {S0 : Nat → Int32} {h0 : Int32} {T : TT} (h : rx M0 x na S0 h0 M T) {q i : Nat} {v : Int32} (hq : q = x + i) (hi : i < 71) (hs : ∀ c, c < 6 → i ≠ 29 + 7 * c + 5) (hna : na ≤ 6) : rx M0 x na S0 h0 (gh_st M 33 0 q v) (upd T i v) := by
  obtain ⟨h1, ⟨h2, h3⟩, h4⟩ := h
  refine ⟨h1.st hq, ⟨fun c hc => ?_, ?_⟩, fun a b j g1 g2 g3 => ?_⟩
  · rw [zb_k _ _ _ _ _ _ (by decide), pk_un (by have := hs c hc; omega)]
    exact h2 c hc
  · rw [zb_k _ _ _ _ _ _ (by decide), h3]
    congr 1
    exact bx_cong fun c hc => (pk_un (by have := hs c (by omega); omega)).symm
  · rw [zb_st, if_neg (by omega)]
    exact h4 a b j g1 g2 g3
theorem r_ca {x c : Nat} : (nI x + nI 29) + nI 7 * nI c = nI (x + 29 + 7 * c) := by rw [nI_add, pk_mul, nI_add]
theorem r_ta {x t : Nat} : (nI x + nI 4) + nI 5 * nI t = nI (x + 4 + 5 * t) := by rw [nI_add, pk_mul, nI_add]
def sp_inv (o : Option Nat) : Int32 := match o with
  | none => -1000000
  | some c => nI c
theorem sp_inv_ne {c : Nat} (h : c < 2 ^ 31) : ¬ sp_inv (some c) = (-1000000 : Int32) := by
  intro e
  have h1 : (nI c).toInt = (-1000000 : Int32).toInt := congrArg Int32.toInt e
  rw [nI_toInt h] at h1
  have h2 : (-1000000 : Int32).toInt = -1000000 := by decide
  rw [h2] at h1
  omega
theorem r_carIn_l {M : gh_M} {x na : Nat} {T : TT} (hx : x + 71 ≤ 1988) (hr : rr M x T) (h2 : T 2 = nI na) (hna : na ≤ 6) {v : Int32} {Q : Int32 → gh_M → Prop} :
    ∀ (r c : Nat), c + r = na → Q (sp_inv (sp_inF T v c r)) M → wl_X7_carIn_2 Q (r + 1) (nI x) v (nI c) M := by
  intro r
  induction r with
  | zero =>
    intro c hc hq
    unfold wl_X7_carIn_2
    simp (disch := omega) only [nI_add, nI_clamp, zb_in, true_and, hr.a1, h2]
    exact ⟨fun _ => hq, fun h => absurd (nI_le (by omega) (by omega)) h⟩
  | succ r ih =>
    intro c hc hq
    unfold wl_X7_carIn_2
    unfold sp_inF at hq
    simp (disch := omega) only [wp_X7_carAt, nI_add, pk_mul, nI_clamp, zb_in, true_and, hr.a1, hr.a3, h2, forall_eq]
    refine ⟨fun h => absurd h (nI_ge (by omega) (by omega)), fun _ => ⟨fun h => ?_, fun h => ?_⟩⟩
    · rw [if_neg h] at hq
      exact ih (c + 1) (by omega) hq
    · rw [if_pos h] at hq
      exact hq
theorem r_carIn {M : gh_M} {x na : Nat} {T : TT} (hx : x + 71 ≤ 1988) (hr : rr M x T) (h2 : T 2 = nI na) (hna : na ≤ 6) {v : Int32} {Q : Int32 → gh_M → Prop} (hq : Q (sp_inv (sp_in T na v)) M) : wp_X7_carIn (nI x) v M Q :=
  ⟨na + 1, r_carIn_l hx hr h2 hna na 0 (by omega) hq⟩
theorem r_alone_l {M : gh_M} {x na car : Nat} {T : TT} (hx : x + 71 ≤ 1988) (hr : rr M x T) (h2 : T 2 = nI na) (hna : na ≤ 6) (hcar : car < 6) {Q : Int32 → gh_M → Prop} :
    ∀ (r c : Nat) (b : Bool), c + r = na → Q (if (b && (List.range' c r).all (fun c => decide (c = car) || decide (nI 20 ≤ T (29 + 7 * c + 3)))) = true then nI 1 else nI 0) M → wl_X7_runsAlone_5 Q (r + 1) (nI x) (nI car) (if b = true then nI 1 else nI 0) (nI c) M := by
  intro r
  induction r with
  | zero =>
    intro c b hc hq
    unfold wl_X7_runsAlone_5
    simp (disch := omega) only [nI_add, nI_clamp, zb_in, true_and, hr.a1, h2]
    refine ⟨fun _ => ⟨by cases b <;> decide, ?_⟩, fun h => absurd (nI_le (by omega) (by omega)) h⟩
    simpa using hq
  | succ r ih =>
    intro c b hc hq
    unfold wl_X7_runsAlone_5
    simp (disch := omega) only [wp_X7_carAt, nI_add, pk_mul, nI_clamp, zb_in, true_and, hr.a1, hr.a3, h2, forall_eq, nI_eq]
    refine ⟨fun h => absurd h (nI_ge (by omega) (by omega)), fun _ => ?_⟩
    rw [List.range'_succ, List.all_cons] at hq
    cases b with
    | false =>
      refine ⟨fun _ => ?_, fun h => absurd rfl h⟩
      refine ih (c + 1) false (by omega) ?_
      simpa using hq
    | true =>
      refine ⟨fun h => absurd h (by decide), fun _ => ⟨fun h => ?_, fun h => ⟨fun g => ?_, fun g => ?_⟩⟩⟩
      · refine ih (c + 1) true (by omega) ?_
        have e : (decide (c = car) || decide (nI 20 ≤ T (29 + 7 * c + 3))) = true := by simp [h]
        rw [e, Bool.true_and] at hq
        exact hq
      · refine ih (c + 1) false (by omega) ?_
        have g' : ¬ nI 20 ≤ T (29 + 7 * c + 3) := Int32.not_le.mpr g
        have e : (decide (c = car) || decide (nI 20 ≤ T (29 + 7 * c + 3))) = false := by simp [h, g']
        rw [e, Bool.false_and, Bool.and_false] at hq
        exact hq
      · refine ih (c + 1) true (by omega) ?_
        have g' : nI 20 ≤ T (29 + 7 * c + 3) := Int32.not_lt.mp g
        have e : (decide (c = car) || decide (nI 20 ≤ T (29 + 7 * c + 3))) = true := by simp [g']
        rw [e, Bool.true_and] at hq
        exact hq
theorem r_alone {M : gh_M} {x na car : Nat} {T : TT} (hx : x + 71 ≤ 1988) (hr : rr M x T) (h2 : T 2 = nI na) (hna : na ≤ 6) (hcar : car < 6) {Q : Int32 → gh_M → Prop} (hq : Q (if sp_alb T na car = true then nI 1 else nI 0) M) : wp_X7_runsAlone (nI x) (nI car) M Q := by
  refine ⟨na + 1, ?_⟩
  have h := r_alone_l hx hr h2 hna hcar (Q := Q) na 0 true (by omega) (by unfold sp_alb at hq; rw [List.range_eq_range'] at hq; simpa using hq)
  exact h
theorem r_fright {M : gh_M} {x na t car : Nat} {T : TT} (hx : x + 71 ≤ 1988) (hr : rr M x T) (h2 : T 2 = nI na) (hna : na ≤ 6) (hcar : car < 6) (ht : t < 5) {Q : Int32 → gh_M → Prop} (hq : Q (sp_fr T na t car) M) : wp_X7_fright (nI x) (nI t) (nI car) M Q := by
  unfold wp_X7_fright
  unfold sp_fr at hq
  simp (disch := omega) only [wp_X7_carAt, wp_X7_trickAt, nI_add, pk_mul, nI_clamp, zb_in, true_and, hr.a1, hr.a2, hr.a3, forall_eq]
  have e20 : ¬ nI 2 = 0 := by decide
  refine ⟨fun h => ?_, fun h => ⟨fun h' => ?_, fun h' => ⟨fun h'' => ?_, fun h'' => ⟨fun h3 => ?_, fun h3 => ?_⟩⟩⟩⟩
  · rw [if_pos h] at hq
    exact hq
  · rw [if_neg h, if_pos h'] at hq
    refine ⟨e20, fun g => ?_, fun g => ?_⟩
    · rw [if_neg g] at hq; exact hq
    · rw [if_pos g] at hq; exact hq
  · rw [if_neg h, if_neg h', if_pos h''] at hq
    refine r_alone hx hr h2 hna hcar ?_
    by_cases g : sp_alb T na car = true
    · rw [if_pos g] at hq
      rw [if_pos g]
      exact ⟨fun e => absurd e (by decide), fun _ => hq⟩
    · rw [if_neg g] at hq
      rw [if_neg g]
      exact ⟨fun _ => hq, fun e => absurd rfl e⟩
  · rw [if_neg h, if_neg h', if_neg h'', if_pos h3] at hq
    exact hq
  · rw [if_neg h, if_neg h', if_neg h'', if_neg h3] at hq
    refine ⟨e20, fun g => ?_, fun g => ?_⟩
    · rw [if_neg g] at hq; exact hq
    · rw [if_pos g] at hq; exact hq
theorem zi_sub1 (a b : Int32) : a + nI 1 - b = a - b + nI 1 := by
  rw [Int32.sub_eq_add_neg, Int32.sub_eq_add_neg, Int32.add_assoc, Int32.add_comm (nI 1) (-b), ← Int32.add_assoc]
theorem bx_up {f : Nat → Int32} {k : Nat} (v : Int32) : ∀ {n : Nat}, k < n → bx_sum (fun c => if c = k then f c + v else f c) n = bx_sum f n + v
  | 0, h => absurd h (Nat.not_lt_zero _)
  | n + 1, h => by
    show bx_sum _ n + (if n = k then f n + v else f n) = bx_sum f n + f n + v
    by_cases e : n = k
    · subst e
      rw [if_pos rfl, bx_cong (g := f) (fun c hc => if_neg (by omega)), Int32.add_assoc]
    · rw [if_neg e, bx_up v (by omega), Int32.add_assoc, Int32.add_comm v, ← Int32.add_assoc]
theorem rx.scream {M0 M : gh_M} {x na car : Nat} {S0 : Nat → Int32} {h0 : Int32} {T : TT} (h : rx M0 x na S0 h0 M T) (hc : car < na) (hna : na ≤ 6) {v v5 v6 : Int32} (e1 : v = T (29 + 7 * car + 5) + nI 1) (e5 : v5 = M 32 0 5 + nI 1) (e6 : v6 = M 36 0 car + nI 1) :
    rx M0 x na S0 h0 (gh_st (gh_st (gh_st (gh_st (gh_st M 33 0 (x + 29 + 7 * car + 5) v) 33 0 (x + 29 + 7 * car + 4) (nI 0)) 33 0 (x + 29 + 7 * car + 6) (nI 1)) 32 0 5 v5) 36 0 car v6) (sp_sc T car) := by
  subst e1; subst e5; subst e6
  obtain ⟨h1, ⟨h2, h3⟩, h4⟩ := h
  have g1 : rr (gh_st (gh_st (gh_st M 33 0 (x + 29 + 7 * car + 5) (T (29 + 7 * car + 5) + nI 1)) 33 0 (x + 29 + 7 * car + 4) (nI 0)) 33 0 (x + 29 + 7 * car + 6) (nI 1)) x (sp_sc T car) := ((h1.st (by omega)).st (by omega)).st (by omega)
  refine ⟨fun i hi => ?_, ⟨fun c hc2 => ?_, ?_⟩, fun a b j q1 q2 q3 => ?_⟩
  · rw [zb_k _ _ _ _ _ _ (by decide), zb_k _ _ _ _ _ _ (by decide)]
    exact g1 i hi
  · unfold sp_sc
    by_cases e : c = car
    · subst e
      rw [zb_s, pk_un (by omega), pk_un (by omega), pk_us, h2 c hc2, zi_sub1]
    · rw [zb_j _ _ _ _ e, zb_k _ _ _ _ _ _ (by decide), zb_k _ _ _ _ _ _ (by decide), zb_k _ _ _ _ _ _ (by decide), zb_k _ _ _ _ _ _ (by decide), pk_un (by omega), pk_un (by omega), pk_un (by omega)]
      exact h2 c hc2
  · rw [zb_k _ _ _ _ _ _ (by decide), zb_s, h3, Int32.add_assoc, ← bx_up (nI 1) hc]
    congr 1
    refine bx_cong fun c hc2 => ?_
    unfold sp_sc
    by_cases e : c = car
    · subst e
      rw [if_pos rfl, pk_un (by omega), pk_un (by omega), pk_us]
    · rw [if_neg e, pk_un (by omega), pk_un (by omega), pk_un (by omega)]
  · rw [zb_st, if_neg (by omega), zb_st, if_neg (by omega), zb_st, if_neg (by omega), zb_st, if_neg (by omega), zb_st, if_neg (by omega)]
    exact h4 a b j q1 q2 q3
theorem sp_ms_at {T0 : TT} {na car : Nat} {j : Int32} {n i : Nat} (hc : car < 6) (hn : n ≤ 5) (hi : ¬ sp_ch i) : sp_ms T0 na car j n i = T0 i := sp_ms_kp T0 na j hc n hn i hi
theorem sp_nch1 : ¬ sp_ch 1 := by unfold sp_ch; rintro (h | ⟨t, ht, h⟩ | ⟨c, hc, h | h | h | h⟩) <;> omega
theorem sp_nch2 : ¬ sp_ch 2 := by unfold sp_ch; rintro (h | ⟨t, ht, h⟩ | ⟨c, hc, h | h | h | h⟩) <;> omega
theorem sp_nch0 : ¬ sp_ch 0 := by unfold sp_ch; rintro (h | ⟨t, ht, h⟩ | ⟨c, hc, h | h | h | h⟩) <;> omega
theorem r_comes_l {M0 : gh_M} {x na nt car : Nat} {S0 : Nat → Int32} {h0 : Int32} {T0 : TT} {j : Int32} (hx : x + 71 ≤ 1988) (h1 : T0 1 = nI nt) (h2 : T0 2 = nI na) (hna : na ≤ 6) (hnt : nt ≤ 5) (hcar : car < na) {Q : Int32 → gh_M → Prop}
    (hQ0 : ∀ M', rx M0 x na S0 h0 M' (sp_ms T0 na car j nt) → ¬ (sp_ms T0 na car j nt) (29 + 7 * car + 1) ≤ (sp_ms T0 na car j nt) (29 + 7 * car + 4) → Q (nI 0) M')
    (hQ1 : ∀ M', rx M0 x na S0 h0 M' (sp_sc (sp_ms T0 na car j nt) car) → (sp_ms T0 na car j nt) (29 + 7 * car + 1) ≤ (sp_ms T0 na car j nt) (29 + 7 * car + 4) → Q (nI 1) M') :
    ∀ (r t : Nat) (M : gh_M), t + r = nt → rx M0 x na S0 h0 M (sp_ms T0 na car j t) → wl_X7_comes_20 Q (r + 1) (nI x) (nI car) j (nI (x + 29 + 7 * car)) (nI t) M := by
  intro r
  induction r with
  | zero =>
    intro t M ht hX
    have e : t = nt := by omega
    subst e
    unfold wl_X7_comes_20
    have hr := hX.1
    have k1 : (sp_ms T0 na car j t) 1 = nI t := (sp_ms_at (by omega) hnt sp_nch1).trans h1
    simp (disch := omega) only [nI_add, nI_clamp, zb_in, true_and, hr.a1, hr.a3, k1]
    refine ⟨fun _ => ⟨fun g => ?_, fun g => hQ0 _ hX g⟩, fun h => absurd (nI_le (by omega) (by omega)) h⟩
    rintro _ rfl _ rfl _ rfl _ rfl _ rfl
    exact hQ1 _ (hX.scream hcar hna rfl (by simp (disch := decide) only [zb_k]) (by simp (disch := decide) only [zb_k])) g
  | succ r ih =>
    intro t M ht hX
    unfold wl_X7_comes_20
    have hr := hX.1
    have k1 : (sp_ms T0 na car j t) 1 = nI nt := (sp_ms_at (by omega) (by omega) sp_nch1).trans h1
    have k2 : (sp_ms T0 na car j t) 2 = nI na := (sp_ms_at (by omega) (by omega) sp_nch2).trans h2
    simp (disch := omega) only [wp_X7_trickAt, nI_add, pk_mul, nI_clamp, zb_in, true_and, hr.a1, hr.a3, k1]
    refine ⟨fun h => absurd h (nI_ge (by omega) (by omega)), fun _ => ⟨fun h => ?_, fun h => ⟨fun h' => ?_, fun h' => ?_⟩⟩⟩
    · rintro _ rfl
      refine ih (t + 1) M (by omega) ?_
      show rx M0 x na S0 h0 M (sp_m1 (sp_ms T0 na car j t) na car j t)
      unfold sp_m1
      rw [if_neg (fun q => h q.1)]
      exact hX
    · rintro _ rfl
      refine ih (t + 1) M (by omega) ?_
      show rx M0 x na S0 h0 M (sp_m1 (sp_ms T0 na car j t) na car j t)
      unfold sp_m1
      rw [if_neg (fun q => h' q.2)]
      exact hX
    · have key : ∀ (M1 : gh_M), rx M0 x na S0 h0 M1 (sp_met (sp_ms T0 na car j t) t) → wp_X7_fright (nI x) (nI t) (nI car) M1 (fun r35 M36 => ∀ M38, M38 = gh_st M36 33 0 (x + 29 + 7 * car + 4) (M1 33 0 (x + 29 + 7 * car + 4) + r35) → ∀ y, y = nI (t + 1) → wl_X7_comes_20 Q (r + 1) (nI x) (nI car) j (nI (x + 29 + 7 * car)) y M38) := by
        intro M1 hX1
        have k2' : sp_met (sp_ms T0 na car j t) t 2 = nI na := by unfold sp_met; rw [pk_un (by omega)]; exact k2
        refine r_fright hx hX1.1 k2' hna (by omega) (by omega) ?_
        rintro _ rfl _ rfl
        refine ih (t + 1) _ (by omega) ?_
        show rx M0 x na S0 h0 _ (sp_m1 (sp_ms T0 na car j t) na car j t)
        unfold sp_m1
        rw [if_pos ⟨h, h'⟩]
        rw [hX1.1.a3 (by omega)]
        exact hX1.st (by omega) (by omega) (fun c hc => by omega) hna
      refine ⟨fun g => ?_, fun g => ?_⟩
      · rintro _ rfl
        refine key _ ?_
        have := hX.st (v := (sp_ms T0 na car j t) (4 + 5 * t + 4) + nI 0) (q := x + 4 + 5 * t + 4) (i := 4 + 5 * t + 4) (by omega) (by omega) (fun c hc => by omega) hna
        unfold sp_met
        rw [if_pos g]
        exact this
      · rintro _ rfl
        refine key _ ?_
        have := hX.st (v := (sp_ms T0 na car j t) (4 + 5 * t + 4) + nI 1) (q := x + 4 + 5 * t + 4) (i := 4 + 5 * t + 4) (by omega) (by omega) (fun c hc => by omega) hna
        unfold sp_met
        rw [if_neg g]
        exact this
theorem r_comes {M0 M : gh_M} {x na nt car : Nat} {S0 : Nat → Int32} {h0 : Int32} {T : TT} {j : Int32} (hx : x + 71 ≤ 1988) (h1 : T 1 = nI nt) (h2 : T 2 = nI na) (hna : na ≤ 6) (hnt : nt ≤ 5) (hcar : car < na) {Q : Int32 → gh_M → Prop} (hX : rx M0 x na S0 h0 M T)
    (hQ0 : ∀ M', rx M0 x na S0 h0 M' (sp_co T na nt car j) → ¬ (sp_c0 T na nt car j) (29 + 7 * car + 1) ≤ (sp_c0 T na nt car j) (29 + 7 * car + 4) → Q (nI 0) M')
    (hQ1 : ∀ M', rx M0 x na S0 h0 M' (sp_co T na nt car j) → (sp_c0 T na nt car j) (29 + 7 * car + 1) ≤ (sp_c0 T na nt car j) (29 + 7 * car + 4) → Q (nI 1) M') : wp_X7_comes (nI x) (nI car) j M Q := by
  unfold wp_X7_comes
  simp (disch := omega) only [wp_X7_carAt, nI_add, pk_mul, nI_clamp, zb_in, true_and]
  rintro _ rfl
  refine ⟨nt + 1, r_comes_l (T0 := upd T (29 + 7 * car + 3) j) hx (by rw [pk_un (by omega)]; exact h1) (by rw [pk_un (by omega)]; exact h2) hna hnt hcar (fun M' h g => hQ0 M' ?_ g) (fun M' h g => hQ1 M' ?_ g) nt 0 _ (by omega) (hX.st (by omega) (by omega) (fun c hc => by omega) hna)⟩
  · unfold sp_co sp_c0
    rw [if_neg g]
    exact h
  · unfold sp_co sp_c0
    rw [if_pos g]
    exact h
theorem r_goes_l {M0 : gh_M} {x na nt nc car : Nat} {pc : Nat → Nat} {S0 : Nat → Int32} {h0 : Int32} (hx : x + 71 ≤ 1988) (hcar : car < na) {Q : gh_M → Prop} {P : Nat} (hP : P ≤ 3) :
    ∀ (r k : Nat) (M : gh_M) (T : TT), k + r = P → T (29 + 7 * car + 2) = nI P → sp_hd T nc nt na pc → rx M0 x na S0 h0 M T → (∀ M', rx M0 x na S0 h0 M' (sp_goF na nt car r T) → Q M') → wl_X7_goes_33 Q (r + 1) (nI x) (nI car) (nI (x + 29 + 7 * car)) (nI k) M := by
  intro r
  induction r with
  | zero =>
    intro k M T hk hp hh hX hQ
    obtain ⟨k0, k1, k2, b0, b1, b2, k3⟩ := hh
    have hr := hX.1
    unfold wl_X7_goes_33
    simp (disch := omega) only [nI_add, nI_clamp, zb_in, true_and, hr.a3, hp]
    exact ⟨fun _ => hQ _ hX, fun h => absurd (nI_le (by omega) (by omega)) h⟩
  | succ r ih =>
    intro k M T hk hp hh hX hQ
    have hh' := hh
    obtain ⟨k0, k1, k2, b0, b1, b2, k3⟩ := hh
    have hr := hX.1
    unfold wl_X7_goes_33
    have ex : M 33 0 x = T 0 := hr 0 (by omega)
    simp (disch := omega) only [nI_add, nI_clamp, zb_in, true_and, hr.a3, hp, ex]
    refine ⟨fun h => absurd h (nI_ge (by omega) (by omega)), fun _ => ?_⟩
    rintro _ rfl
    unfold sp_goF at hQ
    refine ⟨fun h => ?_, fun h => ?_⟩
    · rw [if_neg h] at hQ
      refine r_carIn hx hr k2 b2 ?_
      cases hin : sp_in T na (T (29 + 7 * car + 3) + nI 1) with
      | some c =>
        rw [hin] at hQ
        refine ⟨fun _ => hQ _ hX, fun e => absurd e (sp_inv_ne ?_)⟩
        have := (sp_in_some hin).1
        omega
      | none =>
        rw [hin] at hQ
        refine ⟨fun e => absurd rfl e, fun _ => ?_⟩
        refine r_comes hx k1 k2 b2 b1 hcar hX (fun M' hX' g => ?_) (fun M' hX' g => ?_)
        · refine ⟨fun _ => ?_, fun e => absurd rfl e⟩
          rintro _ rfl
          rw [if_neg (by decide), if_neg g] at hQ
          refine ih (k + 1) M' _ (by omega) ?_ (hh'.kp (sp_co_kp T na _ (by omega) b1)) hX' hQ
          rw [sp_co_kp T na _ (by omega) b1 _ (by unfold sp_ch; rintro (h | ⟨t, ht, h⟩ | ⟨c, hc, h | h | h | h⟩) <;> omega)]
          exact hp
        · refine ⟨fun e => absurd e (by decide), fun _ => ?_⟩
          rw [if_neg (by decide), if_pos g] at hQ
          exact hQ _ hX'
    · rw [if_pos h] at hQ
      rintro _ rfl
      exact hQ _ (hX.st (by omega) (by omega) (fun c hc => by omega) b2)
theorem r_goes {M0 M : gh_M} {x na nt nc car : Nat} {pc : Nat → Nat} {S0 : Nat → Int32} {h0 : Int32} {T : TT} (hx : x + 71 ≤ 1988) (hcar : car < na) (hh : sp_hd T nc nt na pc) (hX : rx M0 x na S0 h0 M T) {Q : gh_M → Prop} (hQ : ∀ M', rx M0 x na S0 h0 M' (sp_go pc T na nt car) → Q M') : wp_X7_goes (nI x) (nI car) M Q := by
  have hh' := hh
  obtain ⟨k0, k1, k2, b0, b1, b2, k3⟩ := hh
  have hr := hX.1
  unfold wp_X7_goes
  unfold sp_go at hQ
  simp (disch := omega) only [wp_X7_carAt, nI_add, pk_mul, nI_clamp, zb_in, true_and, hr.a3]
  refine ⟨fun h => ?_, fun h => ?_⟩
  · rw [if_neg h] at hQ
    exact ⟨pc car + 1, r_goes_l hx hcar (k3 car hcar).2 (pc car) 0 M T (by omega) (k3 car hcar).1 hh' hX hQ⟩
  · rw [if_pos h] at hQ
    rintro _ rfl
    exact hQ _ (hX.st (by omega) (by omega) (fun c hc => by omega) b2)
/-- by rank -/
def rrk (M : gh_M) (rk : Nat → Nat) (na : Nat) : Prop := ∀ k, k < na → M 34 0 k = nI (rk k) ∧ rk k < na
theorem rrk.mv {M M' : gh_M} {rk : Nat → Nat} {na x : Nat} (h : rrk M rk na) (g : rf x M M') : rrk M' rk na := fun k hk => ⟨(g 34 0 k (by omega) (by omega) (by omega)).trans (h k hk).1, (h k hk).2⟩
theorem r_tick_40 {M0 : gh_M} {x na nt nc : Nat} {pc rk : Nat → Nat} {S0 : Nat → Int32} {h0 : Int32} (hx : x + 71 ≤ 1988) (hk0 : rrk M0 rk na) {Q : gh_M → Prop} :
    ∀ (r k : Nat) (M : gh_M) (T : TT), k + r = na → sp_hd T nc nt na pc → rx M0 x na S0 h0 M T → (∀ M', rx M0 x na S0 h0 M' (upd (sp_le rk na nt k r T) 3 ((sp_le rk na nt k r T) 3 + nI 1)) → Q M') → wl_X7_tickAt_40 Q (r + 1) (nI x) (nI k) M := by
  intro r
  induction r with
  | zero =>
    intro k M T hk hh hX hQ
    obtain ⟨k0, k1, k2, b0, b1, b2, k3⟩ := hh
    have hr := hX.1
    unfold wl_X7_tickAt_40
    simp (disch := omega) only [nI_add, nI_clamp, zb_in, true_and, hr.a1, k2]
    refine ⟨fun _ => ?_, fun h => absurd (nI_le (by omega) (by omega)) h⟩
    rintro _ rfl
    exact hQ _ (hX.st rfl (by omega) (fun c hc => by omega) b2)
  | succ r ih =>
    intro k M T hk hh hX hQ
    have hh' := hh
    obtain ⟨k0, k1, k2, b0, b1, b2, k3⟩ := hh
    have hr := hX.1
    have hrk := hk0.mv hX.2.2
    unfold wl_X7_tickAt_40
    unfold sp_le at hQ
    simp (disch := omega) only [nI_add, nI_clamp, zb_in, true_and, hr.a1, k2]
    refine ⟨fun h => absurd h (nI_ge (by omega) (by omega)), fun _ => ?_⟩
    refine r_carIn hx hr k2 b2 ?_
    cases hin : sp_in T na (nI 0) with
    | some c =>
      rw [hin] at hQ
      refine ⟨fun _ => ?_, fun e => absurd e (sp_inv_ne ?_)⟩
      · simp (disch := omega) only [hr.a1]
        rintro _ rfl
        exact hQ _ (hX.st rfl (by omega) (fun c hc => by omega) b2)
      · have := (sp_in_some hin).1
        omega
    | none =>
      rw [hin] at hQ
      refine ⟨fun e => absurd rfl e, fun _ => ?_⟩
      rw [if_neg (by decide)] at hQ
      have hk2 := hrk k (by omega)
      rw [hk2.1]
      rintro _ rfl
      have hrk6 : rk k < 6 := by omega
      simp (disch := omega) only [wp_X7_carAt, nI_add, pk_mul, nI_clamp, zb_in, true_and, hr.a3]
      refine ⟨fun h => ?_, fun h => ?_⟩
      · rw [if_neg h] at hQ
        rintro _ rfl
        exact ih (k + 1) M T (by omega) hh' hX hQ
      · rw [if_pos h] at hQ
        have fin : ∀ M', rx M0 x na S0 h0 M' (sp_co T na nt (rk k) (nI 0)) → ∀ y, y = nI (k + 1) → wl_X7_tickAt_40 Q (r + 1) (nI x) y M' := by
          rintro M' hX' _ rfl
          exact ih (k + 1) M' _ (by omega) (hh'.kp (sp_co_kp T na _ hrk6 b1)) hX' hQ
        exact r_comes hx k1 k2 b2 b1 hk2.2 hX (fun M' hX' _ => fin M' hX') (fun M' hX' _ => fin M' hX')
theorem r_tick_9 {M0 : gh_M} {x na nt nc : Nat} {pc rk : Nat → Nat} {S0 : Nat → Int32} {h0 : Int32} (hx : x + 71 ≤ 1988) (hk0 : rrk M0 rk na) {Q : gh_M → Prop} :
    ∀ (j : Nat) (M : gh_M) (T : TT), j ≤ 12 → sp_hd T nc nt na pc → rx M0 x na S0 h0 M T → (∀ M', rx M0 x na S0 h0 M' (upd (sp_le rk na nt 0 na (sp_cl pc na nt j T)) 3 ((sp_le rk na nt 0 na (sp_cl pc na nt j T)) 3 + nI 1)) → Q M') → wl_X7_tickAt_9 Q (j + 1) (nI x) (nI j - nI 1) M := by
  intro j
  induction j with
  | zero =>
    intro M T hj hh hX hQ
    unfold wl_X7_tickAt_9
    refine ⟨fun _ => ⟨na + 1, ?_⟩, fun h => absurd (by decide) h⟩
    exact r_tick_40 hx hk0 na 0 M T (by omega) hh hX hQ
  | succ j ih =>
    intro M T hj hh hX hQ
    have hh' := hh
    obtain ⟨k0, k1, k2, b0, b1, b2, k3⟩ := hh
    have hr := hX.1
    unfold wl_X7_tickAt_9
    unfold sp_cl at hQ
    have ej : nI (j + 1) - nI 1 = nI j := nI_pred j
    rw [ej]
    have em : nI j + (-1 : Int32) = nI j - nI 1 := by rw [Int32.sub_eq_add_neg]; rfl
    refine ⟨fun h => absurd h (nI_pos (by omega)), fun _ => ?_⟩
    refine r_carIn hx hr k2 b2 ?_
    cases hin : sp_in T na (nI j) with
    | none =>
      rw [hin] at hQ
      refine ⟨fun _ => ?_, fun e => absurd rfl e⟩
      rintro _ rfl
      rw [em]
      exact ih M T (by omega) hh' hX hQ
    | some c =>
      rw [hin] at hQ
      have hc := (sp_in_some hin).1
      refine ⟨fun e => absurd e (sp_inv_ne (by omega)), fun _ => ?_⟩
      refine r_goes hx hc hh' hX (fun M' hX' => ?_)
      rintro _ rfl
      rw [em]
      exact ih M' _ (by omega) (hh'.kp (sp_go_kp T (by omega) b1)) hX' hQ
theorem r_tick {M0 M : gh_M} {x na nt nc : Nat} {pc rk : Nat → Nat} {S0 : Nat → Int32} {h0 : Int32} {T : TT} (hx : x + 71 ≤ 1988) (hk0 : rrk M0 rk na) (hh : sp_hd T nc nt na pc) (hX : rx M0 x na S0 h0 M T) {Q : gh_M → Prop} (hQ : ∀ M', rx M0 x na S0 h0 M' (sp_tk pc rk nc nt na T) → Q M') : wp_X7_tickAt (nI x) M Q := by
  have hh' := hh
  obtain ⟨k0, k1, k2, b0, b1, b2, k3⟩ := hh
  have ex : M 33 0 x = T 0 := hX.1 0 (by omega)
  unfold wp_X7_tickAt
  simp (disch := omega) only [nI_clamp, zb_in, true_and, ex, k0]
  rintro _ rfl
  exact ⟨nc + 1, r_tick_9 hx hk0 nc M T b0 hh' hX hQ⟩
