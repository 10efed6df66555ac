-- THE CLASS'S TICK
/-- the train number t holds the numbers of T -/
def cd (M : gh_M) (t : Nat) (T : TT) (nt na : Nat) : Prop :=
  M 6 t 0 = T 0 ∧ M 6 t 1 = T 1 ∧ M 6 t 2 = T 2 ∧ M 6 t 3 = T 3 ∧ (∀ i, i < nt → ∀ f, f < 5 → M (7 + f) t i = T (4 + 5 * i + f)) ∧ ∀ c, c < na → ∀ f, f < 7 → M (12 + f) t c = T (29 + 7 * c + f)
/-- what is yes or no is 1 or 0 -/
def bo (M : gh_M) (t : Nat) : Prop := (∀ i, i < 5 → M 10 t i = 0 ∨ M 10 t i = 1) ∧ ∀ i, i < 6 → M 18 t i = 0 ∨ M 18 t i = 1
/-- nothing but the train number t changes -/
def ft (t : Nat) (M M' : gh_M) : Prop := ∀ a b, ¬ (b = t ∧ 6 ≤ a ∧ a ≤ 20) → M' a b = M a b
theorem ft.refl {t : Nat} {M : gh_M} : ft t M M := fun _ _ _ => rfl
theorem ft.tr {t : Nat} {A B C : gh_M} (h : ft t A B) (g : ft t B C) : ft t A C := fun a b q => (g a b q).trans (h a b q)
theorem ft.st {t : Nat} {A B : gh_M} (h : ft t A B) {k j : Nat} {v : Int32} (h1 : 6 ≤ k) (h2 : k ≤ 20) : ft t A (gh_st B k t j v) := fun a b q => by
  rw [← h a b q]
  funext c
  rw [zb_st, if_neg (by omega)]
section CD
variable {M : gh_M} {t nt na : Nat} {T : TT}
theorem cd.k0 (h : cd M t T nt na) {i : Nat} (hi : i < nt) : M 7 t i = T (4 + 5 * i) := h.2.2.2.2.1 i hi 0 (by decide)
theorem cd.k1 (h : cd M t T nt na) {i : Nat} (hi : i < nt) : M 8 t i = T (4 + 5 * i + 1) := h.2.2.2.2.1 i hi 1 (by decide)
theorem cd.k2 (h : cd M t T nt na) {i : Nat} (hi : i < nt) : M 9 t i = T (4 + 5 * i + 2) := h.2.2.2.2.1 i hi 2 (by decide)
theorem cd.k3 (h : cd M t T nt na) {i : Nat} (hi : i < nt) : M 10 t i = T (4 + 5 * i + 3) := h.2.2.2.2.1 i hi 3 (by decide)
theorem cd.k4 (h : cd M t T nt na) {i : Nat} (hi : i < nt) : M 11 t i = T (4 + 5 * i + 4) := h.2.2.2.2.1 i hi 4 (by decide)
theorem cd.c0 (h : cd M t T nt na) {c : Nat} (hc : c < na) : M 12 t c = T (29 + 7 * c) := h.2.2.2.2.2 c hc 0 (by decide)
theorem cd.c1 (h : cd M t T nt na) {c : Nat} (hc : c < na) : M 13 t c = T (29 + 7 * c + 1) := h.2.2.2.2.2 c hc 1 (by decide)
theorem cd.c2 (h : cd M t T nt na) {c : Nat} (hc : c < na) : M 14 t c = T (29 + 7 * c + 2) := h.2.2.2.2.2 c hc 2 (by decide)
theorem cd.c3 (h : cd M t T nt na) {c : Nat} (hc : c < na) : M 15 t c = T (29 + 7 * c + 3) := h.2.2.2.2.2 c hc 3 (by decide)
theorem cd.c4 (h : cd M t T nt na) {c : Nat} (hc : c < na) : M 16 t c = T (29 + 7 * c + 4) := h.2.2.2.2.2 c hc 4 (by decide)
theorem cd.c5 (h : cd M t T nt na) {c : Nat} (hc : c < na) : M 17 t c = T (29 + 7 * c + 5) := h.2.2.2.2.2 c hc 5 (by decide)
theorem cd.c6 (h : cd M t T nt na) {c : Nat} (hc : c < na) : M 18 t c = T (29 + 7 * c + 6) := h.2.2.2.2.2 c hc 6 (by decide)
theorem cd.stC (h : cd M t T nt na) (hn : nt ≤ 5) {c f : Nat} (hf : f < 7) (v : Int32) : cd (gh_st M (12 + f) t c v) t (upd T (29 + 7 * c + f) v) nt na := by
  obtain ⟨h0, h1, h2, h3, hk, hc⟩ := h
  refine ⟨?_, ?_, ?_, ?_, fun i hi g hg => ?_, fun d hd g hg => ?_⟩
  · rw [zb_k _ _ _ _ _ _ (by omega), pk_un (by omega)]; exact h0
  · rw [zb_k _ _ _ _ _ _ (by omega), pk_un (by omega)]; exact h1
  · rw [zb_k _ _ _ _ _ _ (by omega), pk_un (by omega)]; exact h2
  · rw [zb_k _ _ _ _ _ _ (by omega), pk_un (by omega)]; exact h3
  · rw [zb_k _ _ _ _ _ _ (by omega), pk_un (by omega)]; exact hk i hi g hg
  · rw [zb_st, zb_upd]
    by_cases e : d = c ∧ g = f
    · rw [if_pos (by omega), if_pos (by omega)]
    · rw [if_neg (by omega), if_neg (by omega)]; exact hc d hd g hg
theorem cd.stK (h : cd M t T nt na) (hn : nt ≤ 5) {u f : Nat} (hu : u < nt) (hf : f < 5) (v : Int32) : cd (gh_st M (7 + f) t u v) t (upd T (4 + 5 * u + f) v) nt na := by
  obtain ⟨h0, h1, h2, h3, hk, hc⟩ := h
  refine ⟨?_, ?_, ?_, ?_, fun i hi g hg => ?_, fun d hd g hg => ?_⟩
  · rw [zb_k _ _ _ _ _ _ (by omega), pk_un (by omega)]; exact h0
  · rw [zb_k _ _ _ _ _ _ (by omega), pk_un (by omega)]; exact h1
  · rw [zb_k _ _ _ _ _ _ (by omega), pk_un (by omega)]; exact h2
  · rw [zb_k _ _ _ _ _ _ (by omega), pk_un (by omega)]; exact h3
  · rw [zb_st, zb_upd]
    by_cases e : i = u ∧ g = f
    · rw [if_pos (by omega), if_pos (by omega)]
    · rw [if_neg (by omega), if_neg (by omega)]; exact hk i hi g hg
  · rw [zb_k _ _ _ _ _ _ (by omega), pk_un (by omega)]; exact hc d hd g hg
theorem cd.stO (h : cd M t T nt na) {k j : Nat} (v : Int32) (hk : k = 19 ∨ k = 20 ∨ (k = 6 ∧ j = 4)) : cd (gh_st M k t j v) t T nt na := by
  obtain ⟨h0, h1, h2, h3, hk2, hc⟩ := h
  refine ⟨?_, ?_, ?_, ?_, fun i hi g hg => ?_, fun d hd g hg => ?_⟩
  · rw [zb_st, if_neg (by omega)]; exact h0
  · rw [zb_st, if_neg (by omega)]; exact h1
  · rw [zb_st, if_neg (by omega)]; exact h2
  · rw [zb_st, if_neg (by omega)]; exact h3
  · rw [zb_st, if_neg (by omega)]; exact hk2 i hi g hg
  · rw [zb_st, if_neg (by omega)]; exact hc d hd g hg
theorem cd.stT (h : cd M t T nt na) (v : Int32) : cd (gh_st M 6 t 3 v) t (upd T 3 v) nt na := by
  obtain ⟨h0, h1, h2, h3, hk2, hc⟩ := h
  refine ⟨?_, ?_, ?_, ?_, fun i hi g hg => ?_, fun d hd g hg => ?_⟩
  · rw [zb_j _ _ _ _ (by omega), pk_un (by omega)]; exact h0
  · rw [zb_j _ _ _ _ (by omega), pk_un (by omega)]; exact h1
  · rw [zb_j _ _ _ _ (by omega), pk_un (by omega)]; exact h2
  · rw [zb_s, pk_us]
  · rw [zb_k _ _ _ _ _ _ (by omega), pk_un (by omega)]; exact hk2 i hi g hg
  · rw [zb_k _ _ _ _ _ _ (by omega), pk_un (by omega)]; exact hc d hd g hg
end CD
/-- the whole of a train: its numbers; how many run, who is in a cell, the rank, as they stand; nothing else has changed -/
def cx (M0 : gh_M) (t nt na : Nat) (R : Int32) (I K : Nat → Int32) (M : gh_M) (T : TT) : Prop := cd M t T nt na ∧ M 6 t 4 = R ∧ (∀ i, M 20 t i = I i) ∧ (∀ i, M 19 t i = K i) ∧ bo M t ∧ ft t M0 M
section CX
variable {M0 M : gh_M} {t nt na : Nat} {R : Int32} {I K : Nat → Int32} {T : TT}
theorem bo.st (h : bo M t) {k j : Nat} {v : Int32} (hk : k ≠ 10 ∧ k ≠ 18 ∨ v = 0 ∨ v = 1) : bo (gh_st M k t j v) t := by
  refine ⟨fun i hi => ?_, fun i hi => ?_⟩
  · rw [zb_st]
    by_cases e : 10 = k ∧ t = t ∧ i = j
    · rw [if_pos e]
      rcases hk with hk | hk
      · exact absurd e.1.symm hk.1
      · exact hk
    · rw [if_neg e]; exact h.1 i hi
  · rw [zb_st]
    by_cases e : 18 = k ∧ t = t ∧ i = j
    · rw [if_pos e]
      rcases hk with hk | hk
      · exact absurd e.1.symm hk.2
      · exact hk
    · rw [if_neg e]; exact h.2 i hi
theorem cx.stC (h : cx M0 t nt na R I K M T) (hn : nt ≤ 5) {k c f : Nat} (hk : k = 12 + f) (hf : f < 7) {v : Int32} (hv : f ≠ 6 ∨ v = 0 ∨ v = 1) : cx M0 t nt na R I K (gh_st M k t c v) (upd T (29 + 7 * c + f) v) := by
  subst hk
  obtain ⟨h1, h2, h3, h4, h5, h6⟩ := h
  refine ⟨h1.stC hn hf v, ?_, fun i => ?_, fun i => ?_, h5.st ?_, h6.st (by omega) (by omega)⟩
  · rw [zb_k _ _ _ _ _ _ (by omega)]; exact h2
  · rw [zb_k _ _ _ _ _ _ (by omega)]; exact h3 i
  · rw [zb_k _ _ _ _ _ _ (by omega)]; exact h4 i
  · rcases hv with hv | hv
    · exact Or.inl (by omega)
    · exact Or.inr hv
theorem cx.stK (h : cx M0 t nt na R I K M T) (hn : nt ≤ 5) {k u f : Nat} (hk : k = 7 + f) (hu : u < nt) (hf : f < 5) {v : Int32} (hv : f ≠ 3 ∨ v = 0 ∨ v = 1) : cx M0 t nt na R I K (gh_st M k t u v) (upd T (4 + 5 * u + f) v) := by
  subst hk
  obtain ⟨h1, h2, h3, h4, h5, h6⟩ := h
  refine ⟨h1.stK hn hu hf v, ?_, fun i => ?_, fun i => ?_, h5.st ?_, h6.st (by omega) (by omega)⟩
  · rw [zb_k _ _ _ _ _ _ (by omega)]; exact h2
  · rw [zb_k _ _ _ _ _ _ (by omega)]; exact h3 i
  · rw [zb_k _ _ _ _ _ _ (by omega)]; exact h4 i
  · rcases hv with hv | hv
    · exact Or.inl (by omega)
    · exact Or.inr hv
theorem cx.stT (h : cx M0 t nt na R I K M T) (v : Int32) : cx M0 t nt na R I K (gh_st M 6 t 3 v) (upd T 3 v) := by
  obtain ⟨h1, h2, h3, h4, h5, h6⟩ := h
  refine ⟨h1.stT v, ?_, fun i => ?_, fun i => ?_, h5.st (Or.inl (by omega)), h6.st (by omega) (by omega)⟩
  · rw [zb_j _ _ _ _ (by omega)]; exact h2
  · rw [zb_k _ _ _ _ _ _ (by omega)]; exact h3 i
  · rw [zb_k _ _ _ _ _ _ (by omega)]; exact h4 i
theorem cx.stR (h : cx M0 t nt na R I K M T) (v : Int32) : cx M0 t nt na v I K (gh_st M 6 t 4 v) T := by
  obtain ⟨h1, h2, h3, h4, h5, h6⟩ := h
  refine ⟨h1.stO v (by omega), zb_s _ _ _ _ _, fun i => ?_, fun i => ?_, h5.st (Or.inl (by omega)), h6.st (by omega) (by omega)⟩
  · rw [zb_k _ _ _ _ _ _ (by omega)]; exact h3 i
  · rw [zb_k _ _ _ _ _ _ (by omega)]; exact h4 i
theorem cx.stI (h : cx M0 t nt na R I K M T) (j : Nat) (v : Int32) : cx M0 t nt na R (upd I j v) K (gh_st M 20 t j v) T := by
  obtain ⟨h1, h2, h3, h4, h5, h6⟩ := h
  refine ⟨h1.stO v (by omega), ?_, fun i => ?_, fun i => ?_, h5.st (Or.inl (by omega)), h6.st (by omega) (by omega)⟩
  · rw [zb_k _ _ _ _ _ _ (by omega)]; exact h2
  · rw [zb_st, zb_upd]
    by_cases e : i = j
    · rw [if_pos ⟨rfl, rfl, e⟩, if_pos e]
    · rw [if_neg (fun q => e q.2.2), if_neg e]; exact h3 i
  · rw [zb_k _ _ _ _ _ _ (by omega)]; exact h4 i
end CX
/-- a car runs -/
def rn (T : TT) (c : Nat) : Bool := !decide (nI 20 ≤ T (29 + 7 * c + 3))
def cnt (T : TT) (na : Nat) : Nat := fb_ct (rn T) na
theorem cnt_le (T : TT) (na : Nat) : cnt T na ≤ na := fb_ct_le _ _
theorem cnt_one {T : TT} {na car : Nat} (hc : car < na) (hr : rn T car = true) : cnt T na = 1 ↔ sp_alb T na car = true := by
  rw [sp_alb_iff]
  have h := fb_ct_upd (rn T) false hc
  rw [if_pos hr] at h
  have h0 : cnt T na = 1 ↔ fb_ct (fun k => if k = car then false else rn T k) na = 0 := by
    unfold cnt
    simp only [Bool.false_eq_true, if_false] at h
    omega
  rw [h0, fb_ct_zero]
  unfold sp_al
  constructor
  · intro g c hc2 hne
    have := g c hc2
    rw [if_neg hne] at this
    unfold rn at this
    simpa using this
  · intro g c hc2
    by_cases e : c = car
    · rw [if_pos e]
    · rw [if_neg e]
      have := g c hc2 e
      unfold rn
      simpa using this
theorem c_fright {M0 M : gh_M} {t nt na nc car u : Nat} {I K : Nat → Int32} {T : TT} (hX : cx M0 t nt na (nI (cnt T na)) I K M T) (hw : wf T nc nt na) (hn : nt ≤ 5) (ha : na ≤ 6) (hc : car < na) (hu : u < nt) (hr : rn T car = true) {Q : Int32 → gh_M → Prop} (hq : Q (sp_fr T na u car) M) : wp_X5_fright t (nI u) (nI car) M Q := by
  have hd := hX.1
  have hR := hX.2.1
  have h3 : M 6 t 3 = T 3 := hd.2.2.2.1
  have e20 : ¬ nI 2 = 0 := by decide
  unfold wp_X5_fright
  unfold sp_fr at hq
  simp (disch := omega) only [nI_clamp, zb_in, true_and, hd.k0, hd.k2, hd.k4, hd.c0, forall_eq, hR, h3]
  obtain ⟨k, hk1, hk2, hk⟩ := hw.1 u hu
  have hcn := cnt_le T na
  refine ⟨fun h => ?_, fun h => ⟨fun h' => ?_, fun h' => ⟨fun h'' => ?_, fun h'' => ⟨fun h4 => ?_, fun h4 => ⟨fun h5 => ?_, fun h5 => ?_⟩⟩⟩⟩⟩
  · rw [if_pos h] at hq; exact hq
  · rw [if_neg h, if_pos h'] at hq
    refine ⟨e20, fun g => ?_, fun g => ?_⟩
    · rw [if_neg g] at hq; exact hq
    · rw [if_pos g] at hq; exact hq
  · rw [if_neg h, if_neg h', if_pos h''] at hq
    refine ⟨fun g => ?_, fun g => ?_⟩
    · rw [if_neg (fun q => g (by rw [(cnt_one hc hr).mpr q]))] at hq; exact hq
    · rw [if_pos ((cnt_one hc hr).mp (zb_nI_inj g (by omega) (by omega)))] at hq; exact hq
  · rw [if_neg h, if_neg h', if_neg h'', if_pos h4] at hq; exact hq
  · rw [if_neg h, if_neg h', if_neg h'', if_neg h4] at hq
    refine ⟨e20, fun g => ?_, fun g => ?_⟩
    · rw [if_neg g] at hq; exact hq
    · rw [if_pos g] at hq; exact hq
  · exfalso
    rw [hk] at h h' h'' h4 h5
    have : k = 1 ∨ k = 2 ∨ k = 3 ∨ k = 4 ∨ k = 5 := by omega
    rcases this with rfl | rfl | rfl | rfl | rfl
    · exact h rfl
    · exact h' rfl
    · exact h'' rfl
    · exact h4 rfl
    · exact h5 rfl
theorem rn_ms {T : TT} {na car : Nat} {j : Int32} {n c : Nat} (hn : n ≤ 5) : rn (sp_ms T na car j n) c = rn T c := by
  unfold rn
  rw [sp_ms_w T na car j c n hn]
theorem rn_met {T : TT} {u c : Nat} (hu : u < 5) : rn (sp_met T u) c = rn T c := by
  unfold rn sp_met
  rw [pk_un (by omega)]
theorem cnt_cong {T T' : TT} {na : Nat} (h : ∀ c, c < na → rn T c = rn T' c) : cnt T na = cnt T' na := fb_ct_cong h
theorem c_come_l {M0 : gh_M} {t nt na nc car : Nat} {I K : Nat → Int32} {T0 : TT} {j : Int32} (h1 : T0 1 = nI nt) (hw : wf T0 nc nt na) (hn : nt ≤ 5) (ha : na ≤ 6) (hc : car < na) (hr : rn T0 car = true) {Q : gh_M → Prop}
    (hQ : ∀ M', cx M0 t nt na (nI (cnt T0 na)) I K M' (if (sp_ms T0 na car j nt) (29 + 7 * car + 1) ≤ (sp_ms T0 na car j nt) (29 + 7 * car + 4) then sp_sc (sp_ms T0 na car j nt) car else sp_ms T0 na car j nt) → Q M') :
    ∀ (r u : Nat) (M : gh_M), u + r = nt → cx M0 t nt na (nI (cnt T0 na)) I K M (sp_ms T0 na car j u) → wl_X5_comeInto_16 t Q (r + 1) (nI car) j (nI u) M := by
  intro r
  induction r with
  | zero =>
    intro u M hu hX
    have e : u = nt := by omega
    subst e
    have hd := hX.1
    have k1 : M 6 t 1 = nI u := hd.2.1.trans ((sp_ms_at (by omega) hn sp_nch1).trans h1)
    unfold wl_X5_comeInto_16
    simp (disch := omega) only [nI_clamp, zb_in, true_and, hd.c1, hd.c4, hd.c5, k1]
    refine ⟨fun _ => ⟨fun g => ?_, fun g => ?_⟩, fun h => absurd (nI_le (by omega) (by omega)) h⟩
    · rw [if_neg (Int32.not_le.mpr g)] at hQ
      exact hQ _ hX
    · rw [if_pos (Int32.not_lt.mp g)] at hQ
      rintro _ rfl _ rfl _ rfl
      refine hQ _ ?_
      unfold sp_sc
      exact ((hX.stC hn (f := 5) rfl (by omega) (Or.inl (by omega))).stC hn (f := 4) rfl (by omega) (Or.inl (by omega))).stC hn (f := 6) rfl (by omega) (Or.inr (Or.inr rfl))
  | succ r ih =>
    intro u M hu hX
    have hd := hX.1
    have k1 : M 6 t 1 = nI nt := hd.2.1.trans ((sp_ms_at (by omega) (by omega) sp_nch1).trans h1)
    have hw' : wf (sp_ms T0 na car j u) nc nt na := hw.ms hn u (by omega)
    unfold wl_X5_comeInto_16
    simp (disch := omega) only [nI_add, nI_clamp, zb_in, true_and, hd.k1, hd.k3, hd.k4, k1]
    refine ⟨fun h => absurd h (nI_ge (by omega) (by omega)), fun _ => ⟨fun h => ?_, fun h => ⟨fun h' => ?_, fun h' => ?_⟩⟩⟩
    · rintro _ rfl
      refine ih (u + 1) M (by omega) ?_
      show cx M0 t nt na _ I K M (sp_m1 (sp_ms T0 na car j u) na car j u)
      unfold sp_m1
      rw [if_neg (fun q => by rw [h] at q; exact absurd q.1 (by decide))]
      exact hX
    · rintro _ rfl
      refine ih (u + 1) M (by omega) ?_
      show cx M0 t nt na _ I K M (sp_m1 (sp_ms T0 na car j u) na car j u)
      unfold sp_m1
      rw [if_neg (fun q => h' q.2)]
      exact hX
    · have hon : (sp_ms T0 na car j u) (4 + 5 * u + 3) = nI 1 := by
        rcases hw'.2.1 u (by omega) with q | q
        · exact absurd q h
        · exact q
      rintro _ rfl
      have emet : (if nI 999 < (sp_ms T0 na car j u) (4 + 5 * u + 4) + nI 1 then nI 999 else (sp_ms T0 na car j u) (4 + 5 * u + 4) + nI 1) = (sp_ms T0 na car j u) (4 + 5 * u + 4) + (if nI 999 ≤ (sp_ms T0 na car j u) (4 + 5 * u + 4) then nI 0 else nI 1) := by
        obtain ⟨m, hm, e⟩ := hw'.2.2.1 u (by omega)
        rw [e, nI_add]
        by_cases g : 999 ≤ m
        · have em : m = 999 := by omega
          subst em
          decide
        · rw [if_neg (fun q => g ((nI_leI (by omega) (by omega)).mp q)), if_neg (fun q => by have := (nI_ltI (by omega) (by omega)).mp q; omega), nI_add]
      rw [emet]
      have hX1 : cx M0 t nt na (nI (cnt T0 na)) I K (gh_st M 11 t u ((sp_ms T0 na car j u) (4 + 5 * u + 4) + (if nI 999 ≤ (sp_ms T0 na car j u) (4 + 5 * u + 4) then nI 0 else nI 1))) (sp_met (sp_ms T0 na car j u) u) := hX.stK hn (f := 4) rfl (by omega) (by omega) (Or.inl (by omega))
      have ec : cnt T0 na = cnt (sp_met (sp_ms T0 na car j u) u) na := cnt_cong fun c hc2 => by rw [rn_met (by omega), rn_ms (by omega)]
      rw [ec] at hX1
      refine c_fright hX1 (hw'.met hn (by omega)) hn ha hc (by omega) (by rw [rn_met (by omega), rn_ms (by omega)]; exact hr) ?_
      rintro _ rfl _ rfl
      refine ih (u + 1) _ (by omega) ?_
      have em1 : sp_m1 (sp_ms T0 na car j u) na car j u = sp_fri (sp_met (sp_ms T0 na car j u) u) na car u := by unfold sp_m1; exact if_pos ⟨hon, h'⟩
      show cx M0 t nt na _ I K _ (sp_m1 (sp_ms T0 na car j u) na car j u)
      rw [em1, hX1.1.c4 hc]
      rw [← ec] at hX1
      exact hX1.stC hn (f := 4) rfl (by omega) (Or.inl (by omega))
theorem c_come {M0 M : gh_M} {t nt na nc car j : Nat} {I K : Nat → Int32} {T : TT} (hh : T 1 = nI nt) (hw : wf T nc nt na) (hn : nt ≤ 5) (ha : na ≤ 6) (hnc : nc ≤ 12) (hc : car < na) (hj : j < nc) (hfree : ∀ c, c < na → c ≠ car → T (29 + 7 * c + 3) ≠ nI j) (hX : cx M0 t nt na (nI (cnt (upd T (29 + 7 * car + 3) (nI j)) na)) I K M T) {Q : gh_M → Prop}
    (hQ : ∀ M', cx M0 t nt na (nI (cnt (upd T (29 + 7 * car + 3) (nI j)) na)) (upd I j (nI car)) K M' (sp_co T na nt car (nI j)) → Q M') : wp_X5_comeInto t (nI car) (nI j) M Q := by
  unfold wp_X5_comeInto
  simp (disch := omega) only [nI_clamp, zb_in, true_and]
  rintro _ rfl _ rfl
  have hX1 := (hX.stC hn (k := 15) (c := car) (f := 3) (v := nI j) rfl (by omega) (Or.inl (by omega))).stI j (nI car)
  refine ⟨nt + 1, c_come_l (T0 := upd T (29 + 7 * car + 3) (nI j)) (nc := nc) (by rw [pk_un (by omega)]; exact hh) (hw.go hn (Or.inl ⟨j, hj, rfl⟩) (fun c hc2 hne e => absurd e (hfree c hc2 hne))) hn ha hc ?_ (fun M' h => hQ M' ?_) nt 0 _ (by omega) hX1⟩
  · unfold rn
    rw [pk_us]
    have := nI_20 (j := j) (by omega)
    simpa using this
  · unfold sp_co sp_c0
    exact h
