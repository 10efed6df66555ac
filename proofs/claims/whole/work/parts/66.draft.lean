-- TRAIN: tricks and cars put in
def trU (T : TT) (u : Nat) (k v g : Int32) : TT := upd (upd (upd (upd (upd (upd T (4 + 5 * u) k) (4 + 5 * u + 1) v) (4 + 5 * u + 2) g) (4 + 5 * u + 3) (nI 1)) (4 + 5 * u + 4) (nI 0)) 1 (nI (u + 1))
def caU (T : TT) (u : Nat) (a b c : Int32) : TT := upd (upd (upd (upd (upd T (29 + 7 * u) a) (29 + 7 * u + 1) b) (29 + 7 * u + 2) c) (29 + 7 * u + 3) (nI 20)) 2 (nI (u + 1))
/-- a draft: nc cells, nt tricks, na cars so far -/
def drO (T : TT) (nc nt na : Nat) : Prop := T 0 = nI nc ∧ T 1 = nI nt ∧ T 2 = nI na ∧ T 3 = nI 0 ∧ (∀ t, t < nt → (∃ k, 1 ≤ k ∧ k ≤ 5 ∧ T (4 + 5 * t) = nI k) ∧ T (4 + 5 * t + 3) = nI 1 ∧ T (4 + 5 * t + 4) = nI 0) ∧ (∀ c, c < na → (∃ k, k ≤ 3 ∧ T (29 + 7 * c + 2) = nI k) ∧ T (29 + 7 * c + 3) = nI 20) ∧ (∀ c, c < 6 → T (29 + 7 * c + 4) = nI 0 ∧ T (29 + 7 * c + 5) = nI 0 ∧ T (29 + 7 * c + 6) = nI 0)
def drC (M : gh_M) (T : TT) (nt na : Nat) : Prop := cd M 1 T nt na ∧ M 6 1 4 = nI 0 ∧ (∀ i, i < 12 → M 20 1 i = (-1 : Int32)) ∧ (∀ c, c < na → M 19 1 c = nI c) ∧ bo M 1
theorem drO.tr {T : TT} {nc nt na k : Nat} {v g : Int32} (h : drO T nc nt na) (hn : nt < 5) (hk : 1 ≤ k ∧ k ≤ 5) : drO (trU T nt (nI k) v g) nc (nt + 1) na := by
  obtain ⟨h0, h1, h2, h3, h4, h5, h6⟩ := h
  unfold trU
  refine ⟨?_, ?_, ?_, ?_, fun t ht => ?_, fun c hc => ?_, fun c hc => ?_⟩
  · rw [pk_un (by omega), pk_un (by omega), pk_un (by omega), pk_un (by omega), pk_un (by omega), pk_un (by omega)]; exact h0
  · rw [pk_us]
  · rw [pk_un (by omega), pk_un (by omega), pk_un (by omega), pk_un (by omega), pk_un (by omega), pk_un (by omega)]; exact h2
  · rw [pk_un (by omega), pk_un (by omega), pk_un (by omega), pk_un (by omega), pk_un (by omega), pk_un (by omega)]; exact h3
  · by_cases q : t = nt
    · subst q
      refine ⟨⟨k, hk.1, hk.2, ?_⟩, ?_, ?_⟩
      · rw [pk_un (by omega), pk_un (by omega), pk_un (by omega), pk_un (by omega), pk_un (by omega), pk_us]
      · rw [pk_un (by omega), pk_un (by omega), pk_us]
      · rw [pk_un (by omega), pk_us]
    · have := h4 t (by omega)
      rw [pk_un (by omega), pk_un (by omega), pk_un (by omega), pk_un (by omega), pk_un (by omega), pk_un (by omega), pk_un (by omega), pk_un (by omega), pk_un (by omega), pk_un (by omega), pk_un (by omega), pk_un (by omega), pk_un (by omega), pk_un (by omega), pk_un (by omega), pk_un (by omega), pk_un (by omega), pk_un (by omega)]
      exact this
  · by_cases e : c < 6
    · rw [pk_un (by omega), pk_un (by omega), pk_un (by omega), pk_un (by omega), pk_un (by omega), pk_un (by omega), pk_un (by omega), pk_un (by omega), pk_un (by omega), pk_un (by omega), pk_un (by omega), pk_un (by omega)]
      exact h5 c hc
    · have := h5 c hc
      rw [pk_un (by omega), pk_un (by omega), pk_un (by omega), pk_un (by omega), pk_un (by omega), pk_un (by omega), pk_un (by omega), pk_un (by omega), pk_un (by omega), pk_un (by omega), pk_un (by omega), pk_un (by omega)]
      exact this
  · rw [pk_un (by omega), pk_un (by omega), pk_un (by omega), pk_un (by omega), pk_un (by omega), pk_un (by omega), pk_un (by omega), pk_un (by omega), pk_un (by omega), pk_un (by omega), pk_un (by omega), pk_un (by omega), pk_un (by omega), pk_un (by omega), pk_un (by omega), pk_un (by omega), pk_un (by omega), pk_un (by omega)]
    exact h6 c hc
theorem drO.ca {T : TT} {nc nt na k : Nat} {a b : Int32} (h : drO T nc nt na) (hn : na < 6) (ht : nt ≤ 5) (hk : k ≤ 3) : drO (caU T na a b (nI k)) nc nt (na + 1) := by
  obtain ⟨h0, h1, h2, h3, h4, h5, h6⟩ := h
  unfold caU
  refine ⟨?_, ?_, ?_, ?_, fun t ht => ?_, fun c hc => ?_, fun c hc => ?_⟩
  · rw [pk_un (by omega), pk_un (by omega), pk_un (by omega), pk_un (by omega), pk_un (by omega)]; exact h0
  · rw [pk_un (by omega), pk_un (by omega), pk_un (by omega), pk_un (by omega), pk_un (by omega)]; exact h1
  · rw [pk_us]
  · rw [pk_un (by omega), pk_un (by omega), pk_un (by omega), pk_un (by omega), pk_un (by omega)]; exact h3
  · rw [pk_un (by omega), pk_un (by omega), pk_un (by omega), pk_un (by omega), pk_un (by omega), pk_un (by omega), pk_un (by omega), pk_un (by omega), pk_un (by omega), pk_un (by omega), pk_un (by omega), pk_un (by omega), pk_un (by omega), pk_un (by omega), pk_un (by omega)]
    exact h4 t ht
  · by_cases q : c = na
    · subst q
      refine ⟨⟨k, hk, ?_⟩, ?_⟩
      · rw [pk_un (by omega), pk_un (by omega), pk_us]
      · rw [pk_un (by omega), pk_us]
    · rw [pk_un (by omega), pk_un (by omega), pk_un (by omega), pk_un (by omega), pk_un (by omega), pk_un (by omega), pk_un (by omega), pk_un (by omega), pk_un (by omega), pk_un (by omega)]
      exact h5 c (by omega)
  · rw [pk_un (by omega), pk_un (by omega), pk_un (by omega), pk_un (by omega), pk_un (by omega), pk_un (by omega), pk_un (by omega), pk_un (by omega), pk_un (by omega), pk_un (by omega), pk_un (by omega), pk_un (by omega), pk_un (by omega), pk_un (by omega), pk_un (by omega)]
    exact h6 c hc
section AD
variable {M : gh_M} {T : TT} {nt na : Nat} {Q : gh_M → Prop}
theorem c_addT {k v g : Int32} (h : drC M T nt na) (h1 : T 1 = nI nt) (hn : nt < 5) (ha : na ≤ 6) (hQ : ∀ M', ft 1 M M' → drC M' (trU T nt k v g) (nt + 1) na → Q M') : wp_X5_addTrick 1 k v g M Q := by
  obtain ⟨⟨s0, s1, s2, s3, hk, hc⟩, hR, hI, hK, hb⟩ := h
  have e1 : M 6 1 1 = nI nt := s1.trans h1
  unfold wp_X5_addTrick
  rw [e1]
  refine ⟨fun _ => ?_, fun g => absurd (nI_lt hn (by omega)) g⟩
  simp (disch := omega) only [forall_eq, zb_k, e1, nI_clamp, zb_in, true_and, nI_add]
  refine hQ _ (fun a b q => funext fun i => ?_) ⟨⟨?_, ?_, ?_, ?_, fun i hi f hf => ?_, fun c hc2 f hf => ?_⟩, ?_, fun i hi => ?_, fun c hc2 => ?_, ⟨fun i hi => ?_, fun i hi => ?_⟩⟩
  · rw [zb_st, if_neg (by omega), zb_st, if_neg (by omega), zb_st, if_neg (by omega), zb_st, if_neg (by omega), zb_st, if_neg (by omega), zb_st, if_neg (by omega)]
  · unfold trU
    rw [zb_st, if_neg (by omega), zb_st, if_neg (by omega), zb_st, if_neg (by omega), zb_st, if_neg (by omega), zb_st, if_neg (by omega), zb_st, if_neg (by omega), pk_un (by omega), pk_un (by omega), pk_un (by omega), pk_un (by omega), pk_un (by omega), pk_un (by omega)]
    exact s0
  · unfold trU
    rw [zb_s, pk_us]
  · unfold trU
    rw [zb_st, if_neg (by omega), zb_st, if_neg (by omega), zb_st, if_neg (by omega), zb_st, if_neg (by omega), zb_st, if_neg (by omega), zb_st, if_neg (by omega), pk_un (by omega), pk_un (by omega), pk_un (by omega), pk_un (by omega), pk_un (by omega), pk_un (by omega)]
    exact s2
  · unfold trU
    rw [zb_st, if_neg (by omega), zb_st, if_neg (by omega), zb_st, if_neg (by omega), zb_st, if_neg (by omega), zb_st, if_neg (by omega), zb_st, if_neg (by omega), pk_un (by omega), pk_un (by omega), pk_un (by omega), pk_un (by omega), pk_un (by omega), pk_un (by omega)]
    exact s3
  · unfold trU
    by_cases q : i = nt
    · subst q
      have hf5 : f = 0 ∨ f = 1 ∨ f = 2 ∨ f = 3 ∨ f = 4 := by omega
      rcases hf5 with rfl | rfl | rfl | rfl | rfl
      · rw [zb_st, if_neg (by omega), zb_st, if_neg (by omega), zb_st, if_neg (by omega), zb_st, if_neg (by omega), zb_st, if_neg (by omega), zb_s, pk_un (by omega), pk_un (by omega), pk_un (by omega), pk_un (by omega), pk_un (by omega), Nat.add_zero, pk_us]
      · rw [zb_st, if_neg (by omega), zb_st, if_neg (by omega), zb_st, if_neg (by omega), zb_st, if_neg (by omega), zb_s, pk_un (by omega), pk_un (by omega), pk_un (by omega), pk_un (by omega), pk_us]
      · rw [zb_st, if_neg (by omega), zb_st, if_neg (by omega), zb_st, if_neg (by omega), zb_s, pk_un (by omega), pk_un (by omega), pk_un (by omega), pk_us]
      · rw [zb_st, if_neg (by omega), zb_st, if_neg (by omega), zb_s, pk_un (by omega), pk_un (by omega), pk_us]
        decide
      · rw [zb_st, if_neg (by omega), zb_s, pk_un (by omega), pk_us]
    · rw [zb_st, if_neg (by omega), zb_st, if_neg (by omega), zb_st, if_neg (by omega), zb_st, if_neg (by omega), zb_st, if_neg (by omega), zb_st, if_neg (by omega), pk_un (by omega), pk_un (by omega), pk_un (by omega), pk_un (by omega), pk_un (by omega), pk_un (by omega)]
      exact hk i (by omega) f hf
  · unfold trU
    rw [zb_st, if_neg (by omega), zb_st, if_neg (by omega), zb_st, if_neg (by omega), zb_st, if_neg (by omega), zb_st, if_neg (by omega), zb_st, if_neg (by omega), pk_un (by omega), pk_un (by omega), pk_un (by omega), pk_un (by omega), pk_un (by omega), pk_un (by omega)]
    exact hc c hc2 f hf
  · rw [zb_st, if_neg (by omega), zb_st, if_neg (by omega), zb_st, if_neg (by omega), zb_st, if_neg (by omega), zb_st, if_neg (by omega), zb_st, if_neg (by omega)]
    exact hR
  · rw [zb_st, if_neg (by omega), zb_st, if_neg (by omega), zb_st, if_neg (by omega), zb_st, if_neg (by omega), zb_st, if_neg (by omega), zb_st, if_neg (by omega)]
    exact hI i hi
  · rw [zb_st, if_neg (by omega), zb_st, if_neg (by omega), zb_st, if_neg (by omega), zb_st, if_neg (by omega), zb_st, if_neg (by omega), zb_st, if_neg (by omega)]
    exact hK c hc2
  · by_cases q : i = nt
    · subst q
      rw [zb_st, if_neg (by omega), zb_st, if_neg (by omega), zb_s]
      exact Or.inr (by decide)
    · rw [zb_st, if_neg (by omega), zb_st, if_neg (by omega), zb_st, if_neg (by omega), zb_st, if_neg (by omega), zb_st, if_neg (by omega), zb_st, if_neg (by omega)]
      exact hb.1 i hi
  · rw [zb_st, if_neg (by omega), zb_st, if_neg (by omega), zb_st, if_neg (by omega), zb_st, if_neg (by omega), zb_st, if_neg (by omega), zb_st, if_neg (by omega)]
    exact hb.2 i hi
theorem c_addC {a b c : Int32} (h : drC M T nt na) (h2 : T 2 = nI na) (hz : T (29 + 7 * na + 4) = nI 0 ∧ T (29 + 7 * na + 5) = nI 0 ∧ T (29 + 7 * na + 6) = nI 0) (hn : na < 6) (ht : nt ≤ 5) (hQ : ∀ M', ft 1 M M' → drC M' (caU T na a b c) nt (na + 1) → Q M') : wp_X5_addCar 1 a b c M Q := by
  obtain ⟨⟨s0, s1, s2, s3, hk, hc⟩, hR, hI, hK, hb⟩ := h
  have e2 : M 6 1 2 = nI na := s2.trans h2
  unfold wp_X5_addCar
  rw [e2]
  refine ⟨fun _ => ?_, fun g => absurd (nI_lt hn (by omega)) g⟩
  simp (disch := omega) only [forall_eq, zb_k, e2, nI_clamp, zb_in, true_and, nI_add]
  refine hQ _ (fun a b q => funext fun i => ?_) ⟨⟨?_, ?_, ?_, ?_, fun i hi f hf => ?_, fun c hc2 f hf => ?_⟩, ?_, fun i hi => ?_, fun c hc2 => ?_, ⟨fun i hi => ?_, fun i hi => ?_⟩⟩
  · rw [zb_st, if_neg (by omega), zb_st, if_neg (by omega), zb_st, if_neg (by omega), zb_st, if_neg (by omega), zb_st, if_neg (by omega), zb_st, if_neg (by omega), zb_st, if_neg (by omega), zb_st, if_neg (by omega), zb_st, if_neg (by omega)]
  · unfold caU
    rw [zb_st, if_neg (by omega), zb_st, if_neg (by omega), zb_st, if_neg (by omega), zb_st, if_neg (by omega), zb_st, if_neg (by omega), zb_st, if_neg (by omega), zb_st, if_neg (by omega), zb_st, if_neg (by omega), zb_st, if_neg (by omega), pk_un (by omega), pk_un (by omega), pk_un (by omega), pk_un (by omega), pk_un (by omega)]
    exact s0
  · unfold caU
    rw [zb_st, if_neg (by omega), zb_st, if_neg (by omega), zb_st, if_neg (by omega), zb_st, if_neg (by omega), zb_st, if_neg (by omega), zb_st, if_neg (by omega), zb_st, if_neg (by omega), zb_st, if_neg (by omega), zb_st, if_neg (by omega), pk_un (by omega), pk_un (by omega), pk_un (by omega), pk_un (by omega), pk_un (by omega)]
    exact s1
  · unfold caU
    rw [zb_s, pk_us]
  · unfold caU
    rw [zb_st, if_neg (by omega), zb_st, if_neg (by omega), zb_st, if_neg (by omega), zb_st, if_neg (by omega), zb_st, if_neg (by omega), zb_st, if_neg (by omega), zb_st, if_neg (by omega), zb_st, if_neg (by omega), zb_st, if_neg (by omega), pk_un (by omega), pk_un (by omega), pk_un (by omega), pk_un (by omega), pk_un (by omega)]
    exact s3
  · unfold caU
    rw [zb_st, if_neg (by omega), zb_st, if_neg (by omega), zb_st, if_neg (by omega), zb_st, if_neg (by omega), zb_st, if_neg (by omega), zb_st, if_neg (by omega), zb_st, if_neg (by omega), zb_st, if_neg (by omega), zb_st, if_neg (by omega), pk_un (by omega), pk_un (by omega), pk_un (by omega), pk_un (by omega), pk_un (by omega)]
    exact hk i hi f hf
  · unfold caU
    by_cases q : c = na
    · subst q
      have hf7 : f = 0 ∨ f = 1 ∨ f = 2 ∨ f = 3 ∨ f = 4 ∨ f = 5 ∨ f = 6 := by omega
      rcases hf7 with rfl | rfl | rfl | rfl | rfl | rfl | rfl
      · rw [zb_st, if_neg (by omega), zb_st, if_neg (by omega), zb_st, if_neg (by omega), zb_st, if_neg (by omega), zb_st, if_neg (by omega), zb_st, if_neg (by omega), zb_st, if_neg (by omega), zb_st, if_neg (by omega), zb_s, pk_un (by omega), pk_un (by omega), pk_un (by omega), pk_un (by omega), Nat.add_zero, pk_us]
      · rw [zb_st, if_neg (by omega), zb_st, if_neg (by omega), zb_st, if_neg (by omega), zb_st, if_neg (by omega), zb_st, if_neg (by omega), zb_st, if_neg (by omega), zb_st, if_neg (by omega), zb_s, pk_un (by omega), pk_un (by omega), pk_un (by omega), pk_us]
      · rw [zb_st, if_neg (by omega), zb_st, if_neg (by omega), zb_st, if_neg (by omega), zb_st, if_neg (by omega), zb_st, if_neg (by omega), zb_st, if_neg (by omega), zb_s, pk_un (by omega), pk_un (by omega), pk_us]
      · rw [zb_st, if_neg (by omega), zb_st, if_neg (by omega), zb_st, if_neg (by omega), zb_st, if_neg (by omega), zb_st, if_neg (by omega), zb_s, pk_un (by omega), pk_us]
      · rw [zb_st, if_neg (by omega), zb_st, if_neg (by omega), zb_st, if_neg (by omega), zb_st, if_neg (by omega), zb_s, pk_un (by omega), pk_un (by omega), pk_un (by omega), pk_un (by omega), pk_un (by omega)]
        exact hz.1.symm
      · rw [zb_st, if_neg (by omega), zb_st, if_neg (by omega), zb_st, if_neg (by omega), zb_s, pk_un (by omega), pk_un (by omega), pk_un (by omega), pk_un (by omega), pk_un (by omega)]
        exact hz.2.1.symm
      · rw [zb_st, if_neg (by omega), zb_st, if_neg (by omega), zb_s, pk_un (by omega), pk_un (by omega), pk_un (by omega), pk_un (by omega), pk_un (by omega)]
        rw [hz.2.2]
        decide
    · rw [zb_st, if_neg (by omega), zb_st, if_neg (by omega), zb_st, if_neg (by omega), zb_st, if_neg (by omega), zb_st, if_neg (by omega), zb_st, if_neg (by omega), zb_st, if_neg (by omega), zb_st, if_neg (by omega), zb_st, if_neg (by omega), pk_un (by omega), pk_un (by omega), pk_un (by omega), pk_un (by omega), pk_un (by omega)]
      exact hc c (by omega) f hf
  · rw [zb_st, if_neg (by omega), zb_st, if_neg (by omega), zb_st, if_neg (by omega), zb_st, if_neg (by omega), zb_st, if_neg (by omega), zb_st, if_neg (by omega), zb_st, if_neg (by omega), zb_st, if_neg (by omega), zb_st, if_neg (by omega)]
    exact hR
  · rw [zb_st, if_neg (by omega), zb_st, if_neg (by omega), zb_st, if_neg (by omega), zb_st, if_neg (by omega), zb_st, if_neg (by omega), zb_st, if_neg (by omega), zb_st, if_neg (by omega), zb_st, if_neg (by omega), zb_st, if_neg (by omega)]
    exact hI i hi
  · by_cases q : c = na
    · subst q
      rw [zb_st, if_neg (by omega), zb_s]
    · rw [zb_st, if_neg (by omega), zb_st, if_neg (by omega), zb_st, if_neg (by omega), zb_st, if_neg (by omega), zb_st, if_neg (by omega), zb_st, if_neg (by omega), zb_st, if_neg (by omega), zb_st, if_neg (by omega), zb_st, if_neg (by omega)]
      exact hK c (by omega)
  · rw [zb_st, if_neg (by omega), zb_st, if_neg (by omega), zb_st, if_neg (by omega), zb_st, if_neg (by omega), zb_st, if_neg (by omega), zb_st, if_neg (by omega), zb_st, if_neg (by omega), zb_st, if_neg (by omega), zb_st, if_neg (by omega)]
    exact hb.1 i hi
  · by_cases q : i = na
    · subst q
      rw [zb_st, if_neg (by omega), zb_st, if_neg (by omega), zb_s]
      exact Or.inl (by decide)
    · rw [zb_st, if_neg (by omega), zb_st, if_neg (by omega), zb_st, if_neg (by omega), zb_st, if_neg (by omega), zb_st, if_neg (by omega), zb_st, if_neg (by omega), zb_st, if_neg (by omega), zb_st, if_neg (by omega), zb_st, if_neg (by omega)]
      exact hb.2 i hi
end AD
