-- THE CLASS'S SMALL METHODS
def ln (a : Nat) : Nat := if a ≤ 11 then 5 else if a ≤ 19 then 6 else 12
/-- the kinds 6 .. k - 1 of train t are those of train u -/
def cpd (k t u : Nat) (M0 M : gh_M) : Prop := ∀ a b i, M a b i = if b = t ∧ 6 ≤ a ∧ a < k ∧ i < ln a then M0 a u i else M0 a b i
theorem cpd.step {k t u : Nat} {M0 M : gh_M} (h : cpd k t u M0 M) (hne : u ≠ t) (hk : 6 ≤ k) {n : Nat} (hn : n = ln k) : cpd (k + 1) t u M0 (gh_row M k t (va_cpy (M k u) (M k t) 0 0 n)) := by
  subst hn
  intro a b i
  rw [zb_row]
  by_cases e : a = k ∧ b = t
  · obtain ⟨rfl, rfl⟩ := e
    rw [if_pos ⟨rfl, rfl⟩]
    unfold va_cpy
    by_cases hi : i < ln a
    · rw [if_pos (by omega), if_pos (by omega), h a u, if_neg (by omega)]
      congr 1
      omega
    · rw [if_neg (by omega), if_neg (by omega), h a b, if_neg (by omega)]
  · rw [if_neg e, h a b]
    by_cases g : b = t ∧ 6 ≤ a ∧ a < k ∧ i < ln a
    · rw [if_pos g, if_pos (by omega)]
    · rw [if_neg g, if_neg (by omega)]
theorem cpd.u {k t u : Nat} {M0 M : gh_M} (h : cpd k t u M0 M) (hne : u ≠ t) (a i : Nat) : M a u i = M0 a u i := by rw [h a u i, if_neg (by omega)]
theorem c_copy {M : gh_M} {t u : Nat} (hne : u ≠ t) (hb : bo M u) {Q : gh_M → Prop} (hQ : ∀ M', cpd 21 t u M M' → Q M') : wp_X5_copyFrom t u M Q := by
  have e0 : (nI 0).toNatClampNeg = 0 := by decide
  have e5 : (nI 5).toNatClampNeg = 5 := by decide
  have e6 : (nI 6).toNatClampNeg = 6 := by decide
  have e12 : (nI 12).toNatClampNeg = 12 := by decide
  have n0 : ¬ nI 0 < 0 := by decide
  have n5 : ¬ nI 5 < 0 := by decide
  have n6 : ¬ nI 6 < 0 := by decide
  have n12 : ¬ nI 12 < 0 := by decide
  unfold wp_X5_copyFrom
  simp only [e0, e5, e6, e12, n0, n5, n6, n12, not_false_eq_true, true_and, Nat.zero_add, Nat.le_refl]
  rintro M1 rfl M2 rfl M3 rfl M4 rfl M5 rfl
  have h6 : cpd 7 t u M (gh_st (gh_st (gh_st (gh_st (gh_st M 6 t 0 (M 6 u 0)) 6 t 1 ((gh_st M 6 t 0 (M 6 u 0)) 6 u 1)) 6 t 2 ((gh_st (gh_st M 6 t 0 (M 6 u 0)) 6 t 1 ((gh_st M 6 t 0 (M 6 u 0)) 6 u 1)) 6 u 2)) 6 t 3 ((gh_st (gh_st (gh_st M 6 t 0 (M 6 u 0)) 6 t 1 ((gh_st M 6 t 0 (M 6 u 0)) 6 u 1)) 6 t 2 ((gh_st (gh_st M 6 t 0 (M 6 u 0)) 6 t 1 ((gh_st M 6 t 0 (M 6 u 0)) 6 u 1)) 6 u 2)) 6 u 3)) 6 t 4 ((gh_st (gh_st (gh_st (gh_st M 6 t 0 (M 6 u 0)) 6 t 1 ((gh_st M 6 t 0 (M 6 u 0)) 6 u 1)) 6 t 2 ((gh_st (gh_st M 6 t 0 (M 6 u 0)) 6 t 1 ((gh_st M 6 t 0 (M 6 u 0)) 6 u 1)) 6 u 2)) 6 t 3 ((gh_st (gh_st (gh_st M 6 t 0 (M 6 u 0)) 6 t 1 ((gh_st M 6 t 0 (M 6 u 0)) 6 u 1)) 6 t 2 ((gh_st (gh_st M 6 t 0 (M 6 u 0)) 6 t 1 ((gh_st M 6 t 0 (M 6 u 0)) 6 u 1)) 6 u 2)) 6 u 3)) 6 u 4)) := by
    simp (disch := omega) only [zb_t]
    intro a b i
    simp only [zb_st]
    by_cases e : a = 6 ∧ b = t
    · obtain ⟨rfl, rfl⟩ := e
      have hl : ln 6 = 5 := rfl
      by_cases hi : i < 5
      · have : i = 0 ∨ i = 1 ∨ i = 2 ∨ i = 3 ∨ i = 4 := by omega
        rcases this with rfl | rfl | rfl | rfl | rfl <;> simp [ln]
      · rw [if_neg (by omega), if_neg (by omega), if_neg (by omega), if_neg (by omega), if_neg (by omega), if_neg (by omega)]
    · rw [if_neg (by omega), if_neg (by omega), if_neg (by omega), if_neg (by omega), if_neg (by omega), if_neg (by omega)]
  generalize (gh_st (gh_st (gh_st (gh_st (gh_st M 6 t 0 (M 6 u 0)) 6 t 1 ((gh_st M 6 t 0 (M 6 u 0)) 6 u 1)) 6 t 2 ((gh_st (gh_st M 6 t 0 (M 6 u 0)) 6 t 1 ((gh_st M 6 t 0 (M 6 u 0)) 6 u 1)) 6 u 2)) 6 t 3 ((gh_st (gh_st (gh_st M 6 t 0 (M 6 u 0)) 6 t 1 ((gh_st M 6 t 0 (M 6 u 0)) 6 u 1)) 6 t 2 ((gh_st (gh_st M 6 t 0 (M 6 u 0)) 6 t 1 ((gh_st M 6 t 0 (M 6 u 0)) 6 u 1)) 6 u 2)) 6 u 3)) 6 t 4 ((gh_st (gh_st (gh_st (gh_st M 6 t 0 (M 6 u 0)) 6 t 1 ((gh_st M 6 t 0 (M 6 u 0)) 6 u 1)) 6 t 2 ((gh_st (gh_st M 6 t 0 (M 6 u 0)) 6 t 1 ((gh_st M 6 t 0 (M 6 u 0)) 6 u 1)) 6 u 2)) 6 t 3 ((gh_st (gh_st (gh_st M 6 t 0 (M 6 u 0)) 6 t 1 ((gh_st M 6 t 0 (M 6 u 0)) 6 u 1)) 6 t 2 ((gh_st (gh_st M 6 t 0 (M 6 u 0)) 6 t 1 ((gh_st M 6 t 0 (M 6 u 0)) 6 u 1)) 6 u 2)) 6 u 3)) 6 u 4)) = N6 at h6 ⊢
  rintro N7 e7
  have h7 := h6.step hne (by omega) (n := 5) rfl
  rw [← e7] at h7
  rintro N8 e8
  have h8 := h7.step hne (by omega) (n := 5) rfl
  rw [← e8] at h8
  rintro N9 e9
  have h9 := h8.step hne (by omega) (n := 5) rfl
  rw [← e9] at h9
  refine ⟨fun i hi => by rw [h9.u hne]; exact hb.1 i hi, ?_⟩
  rintro N10 e10
  have h10 := h9.step hne (by omega) (n := 5) rfl
  rw [← e10] at h10
  rintro N11 e11
  have h11 := h10.step hne (by omega) (n := 5) rfl
  rw [← e11] at h11
  rintro N12 e12
  have h12 := h11.step hne (by omega) (n := 6) rfl
  rw [← e12] at h12
  rintro N13 e13
  have h13 := h12.step hne (by omega) (n := 6) rfl
  rw [← e13] at h13
  rintro N14 e14
  have h14 := h13.step hne (by omega) (n := 6) rfl
  rw [← e14] at h14
  rintro N15 e15
  have h15 := h14.step hne (by omega) (n := 6) rfl
  rw [← e15] at h15
  rintro N16 e16
  have h16 := h15.step hne (by omega) (n := 6) rfl
  rw [← e16] at h16
  rintro N17 e17
  have h17 := h16.step hne (by omega) (n := 6) rfl
  rw [← e17] at h17
  refine ⟨fun i hi => by rw [h17.u hne]; exact hb.2 i hi, ?_⟩
  rintro N18 e18
  have h18 := h17.step hne (by omega) (n := 6) rfl
  rw [← e18] at h18
  rintro N19 e19
  have h19 := h18.step hne (by omega) (n := 6) rfl
  rw [← e19] at h19
  rintro N20 e20
  have h20 := h19.step hne (by omega) (n := 12) rfl
  rw [← e20] at h20
  exact hQ _ h20
theorem cpd.ft {t u : Nat} {M M' : gh_M} (h : cpd 21 t u M M') : ft t M M' := fun a b q => funext fun i => by rw [h a b i, if_neg (by omega)]
theorem cpd.bo {t u : Nat} {M M' : gh_M} (h : cpd 21 t u M M') (hb : bo M u) : bo M' t := by
  refine ⟨fun i hi => ?_, fun i hi => ?_⟩
  · rw [h 10 t i, if_pos ⟨rfl, by omega, by omega, by show i < 5; exact hi⟩]; exact hb.1 i hi
  · rw [h 18 t i, if_pos ⟨rfl, by omega, by omega, by show i < 6; exact hi⟩]; exact hb.2 i hi
/-- a train is copied -/
theorem cpd.cz {t u nc nt na : Nat} {M M' : gh_M} {T : TT} (h : cpd 21 t u M M') (hnc : nc ≤ 12) (hn : nt ≤ 5) (ha : na ≤ 6) {M0 : gh_M} {K : Nat → Int32} (hz : cz M0 u nc nt na K M T) : cz M' t nc nt na (M' 19 t) M' T := by
  obtain ⟨I, ⟨⟨s0, s1, s2, s3, hk, hc⟩, hR, hI0, hK0, hb, hf⟩, hI, hw⟩ := hz
  have hs : ∀ j, j < 5 → M' 6 t j = M 6 u j := fun j hj => by rw [h 6 t j, if_pos ⟨rfl, by omega, by omega, by show j < 5; exact hj⟩]
  refine ⟨M' 20 t, ⟨⟨?_, ?_, ?_, ?_, fun i hi f hf2 => ?_, fun c hc2 f hf2 => ?_⟩, ?_, fun _ => rfl, fun _ => rfl, h.bo hb, ft.refl⟩, fun j hj => ?_, hw⟩
  · rw [hs 0 (by omega)]; exact s0
  · rw [hs 1 (by omega)]; exact s1
  · rw [hs 2 (by omega)]; exact s2
  · rw [hs 3 (by omega)]; exact s3
  · rw [h (7 + f) t i, if_pos ⟨rfl, by omega, by omega, by unfold ln; rw [if_pos (by omega)]; omega⟩]
    exact hk i hi f hf2
  · rw [h (12 + f) t c, if_pos ⟨rfl, by omega, by omega, by unfold ln; rw [if_neg (by omega), if_pos (by omega)]; omega⟩]
    exact hc c hc2 f hf2
  · rw [hs 4 (by omega)]; exact hR
  · have e : M' 20 t j = I j := by
      rw [h 20 t j, if_pos ⟨rfl, by omega, by omega, by show j < 12; omega⟩]
      exact hI0 j
    rw [e]
    exact hI j hj
theorem cpd.rk {t u : Nat} {M M' : gh_M} (h : cpd 21 t u M M') {i : Nat} (hi : i < 6) : M' 19 t i = M 19 u i := by rw [h 19 t i, if_pos ⟨rfl, by omega, by omega, by show i < 6; exact hi⟩]
-- all out, and runs that end when all are out
def sp_ao (T : TT) (na : Nat) : Bool := (List.range na).all (fun c => decide (T (29 + 7 * c + 3) = nI 21))
theorem sp_ao_iff (T : TT) (na : Nat) : sp_ao T na = true ↔ ∀ c, c < na → T (29 + 7 * c + 3) = nI 21 := by
  unfold sp_ao
  rw [List.all_eq_true]
  constructor
  · intro h c hc
    simpa using h c (List.mem_range.mpr hc)
  · intro h c hc
    simpa using h c (List.mem_range.mp hc)
theorem c_allOut_l {M : gh_M} {t nt na : Nat} {T : TT} (hd : cd M t T nt na) (h2 : T 2 = nI na) (ha : na ≤ 6) {Q : Int32 → gh_M → Prop} (hQ : Q (if sp_ao T na = true then nI 1 else nI 0) M) :
    ∀ (r c : Nat), c + r = na → (∀ d, d < c → T (29 + 7 * d + 3) = nI 21) → wl_X5_allOut_2 t Q (r + 1) (nI c) M := by
  have e2 : M 6 t 2 = nI na := hd.2.2.1.trans h2
  intro r
  induction r with
  | zero =>
    intro c hc hall
    unfold wl_X5_allOut_2
    simp only [e2]
    refine ⟨fun _ => ?_, fun h => absurd (nI_le (by omega) (by omega)) h⟩
    rw [if_pos ((sp_ao_iff T na).mpr (fun d hd => hall d (by omega)))] at hQ
    exact hQ
  | succ r ih =>
    intro c hc hall
    unfold wl_X5_allOut_2
    simp (disch := omega) only [nI_add, nI_clamp, zb_in, true_and, e2, hd.c3, forall_eq]
    refine ⟨fun h => absurd h (nI_ge (by omega) (by omega)), fun _ => ⟨fun g => ?_, fun g => ?_⟩⟩
    · refine ih (c + 1) (by omega) (fun d hd => ?_)
      by_cases e : d = c
      · subst e; exact g
      · exact hall d (by omega)
    · rw [if_neg (fun q => g ((sp_ao_iff T na).mp q c (by omega)))] at hQ
      exact hQ
theorem c_allOut {M : gh_M} {t nt na : Nat} {T : TT} (hd : cd M t T nt na) (h2 : T 2 = nI na) (ha : na ≤ 6) {Q : Int32 → gh_M → Prop} (hQ : Q (if sp_ao T na = true then nI 1 else nI 0) M) : wp_X5_allOut t M Q :=
  ⟨na + 1, c_allOut_l hd h2 ha hQ na 0 (by omega) (fun d hd => by omega)⟩
/-- alike but for the tick -/
def eq3 (A B : TT) : Prop := ∀ i, i ≠ 3 → A i = B i
theorem eq3.rf {A : TT} : eq3 A A := fun _ _ => rfl
theorem eq3.sy {A B : TT} (h : eq3 A B) : eq3 B A := fun i hi => (h i hi).symm
theorem eq3.tr {A B C : TT} (h : eq3 A B) (g : eq3 B C) : eq3 A C := fun i hi => (h i hi).trans (g i hi)
theorem sp_in_21 {T : TT} {na : Nat} {v : Int32} (h : ∀ c, c < na → T (29 + 7 * c + 3) = nI 21) (hv : v ≠ nI 21) : sp_in T na v = none := by
  cases h9 : sp_in T na v with
  | none => rfl
  | some c => exact absurd ((sp_in_some h9).2.symm.trans (h c (sp_in_some h9).1)) hv
theorem sp_cl_21 {pc : Nat → Nat} {na nt : Nat} {T : TT} (h : ∀ c, c < na → T (29 + 7 * c + 3) = nI 21) : ∀ j, j ≤ 12 → sp_cl pc na nt j T = T
  | 0, _ => rfl
  | j + 1, hj => by
    unfold sp_cl
    rw [sp_in_21 h (fun e => by have := zb_nI_inj e (by omega) (by omega); omega)]
    exact sp_cl_21 h j (by omega)
theorem sp_le_21 {rk : Nat → Nat} {na nt : Nat} {T : TT} (h : ∀ c, c < na → T (29 + 7 * c + 3) = nI 21) (hr : ∀ k, k < na → rk k < na) : ∀ r k, k + r ≤ na → sp_le rk na nt k r T = T
  | 0, _, _ => rfl
  | r + 1, k, hk => by
    unfold sp_le
    rw [sp_in_21 h (by decide), if_neg (by decide), if_neg (by rw [h _ (hr k (by omega))]; decide)]
    exact sp_le_21 h hr r (k + 1) (by omega)
theorem sp_tk_21 {pc rk : Nat → Nat} {nc nt na : Nat} {T : TT} (hnc : nc ≤ 12) (h : ∀ c, c < na → T (29 + 7 * c + 3) = nI 21) (hr : ∀ k, k < na → rk k < na) : sp_tk pc rk nc nt na T = upd T 3 (T 3 + nI 1) := by
  unfold sp_tk
  rw [sp_cl_21 h nc hnc, sp_le_21 h hr na 0 (by omega)]
theorem sp_run_21 {pc rk : Nat → Nat} {nc nt na : Nat} (hnc : nc ≤ 12) (hr : ∀ k, k < na → rk k < na) : ∀ (n : Nat) (T : TT), (∀ c, c < na → T (29 + 7 * c + 3) = nI 21) → eq3 T (sp_run pc rk nc nt na n T)
  | 0, T, _ => eq3.rf
  | n + 1, T, h => by
    unfold sp_run
    rw [sp_tk_21 hnc h hr]
    refine eq3.tr (fun i hi => (pk_un hi).symm) (sp_run_21 hnc hr n _ (fun c hc => ?_))
    rw [pk_un (by omega)]
    exact h c hc
theorem c_for_l {M0 : gh_M} {t nt na nc N : Nat} {pc rk : Nat → Nat} {K : Nat → Int32} (hN : N ≤ 60) (hK : ∀ k, k < na → K k = nI (rk k) ∧ rk k < na) (hnc0 : 0 < nc) {Q : gh_M → Prop} :
    ∀ (r k : Nat) (M : gh_M) (T : TT), k + r = N → sp_hd T nc nt na pc → cz M0 t nc nt na K M T → (∀ M' T', cz M0 t nc nt na K M' T' → eq3 T' (sp_run pc rk nc nt na r T) → Q M') → wl_X5_tickOnFor_2 t Q (r + 1) (nI N) (nI k) M := by
  intro r
  induction r with
  | zero =>
    intro k M T hk hh hZ hQ
    unfold wl_X5_tickOnFor_2
    exact ⟨fun _ => hQ _ _ hZ eq3.rf, fun h => absurd (nI_le (by omega) (by omega)) h⟩
  | succ r ih =>
    intro k M T hk hh hZ hQ
    unfold wl_X5_tickOnFor_2
    refine ⟨fun h => absurd h (nI_ge (by omega) (by omega)), fun _ => ?_⟩
    have hh' := hh
    obtain ⟨k0, k1, k2, b0, b1, b2, k3⟩ := hh
    have hd : cd M t T nt na := by obtain ⟨I, hX, -⟩ := hZ; exact hX.1
    refine c_allOut hd k2 b2 ?_
    by_cases ha : sp_ao T na = true
    · rw [if_pos ha]
      exact ⟨fun _ => hQ _ _ hZ (sp_run_21 b0 (fun k hk => (hK k hk).2) (r + 1) T ((sp_ao_iff T na).mp ha)), fun h => absurd h (by decide)⟩
    · rw [if_neg ha]
      refine ⟨fun h => absurd rfl h, fun _ => ?_⟩
      refine c_tick hK hnc0 hh' hZ (fun M' hZ' => ?_)
      rintro _ rfl
      rw [nI_add]
      exact ih (k + 1) M' _ (by omega) (hh'.kp (sp_tk_kp b2 b1 (fun k hk => by have := (hK k hk).2; omega) T)) hZ' hQ
theorem c_for {M0 M : gh_M} {t nt na nc N : Nat} {pc rk : Nat → Nat} {K : Nat → Int32} {T : TT} (hN : N ≤ 60) (hK : ∀ k, k < na → K k = nI (rk k) ∧ rk k < na) (hnc0 : 0 < nc) (hh : sp_hd T nc nt na pc) (hZ : cz M0 t nc nt na K M T) {Q : gh_M → Prop} (hQ : ∀ M' T', cz M0 t nc nt na K M' T' → eq3 T' (sp_run pc rk nc nt na N T) → Q M') : wp_X5_tickOnFor t (nI N) M Q :=
  ⟨N + 1, c_for_l hN hK hnc0 N 0 M T (by omega) hh hZ hQ⟩
