-- TRAIN: the reader, its signs and numbers
def sgP (n : Nat) (p : Nat → Int32) (c : Int32) (s : Nat × Nat) : Nat × Nat := if s.1 = 0 then (if s.2 < n ∧ p s.2 = c then (0, s.2 + 1) else (1, s.2)) else s
def fgb (x : Int32) : Bool := !decide (x < nI 48) && !decide (nI 57 < x)
def fgF (p : Nat → Int32) : Nat → Nat → Nat
  | 0, _ => 0
  | r + 1, i => if fgb (p i) = true then fgF p r (i + 1) + 1 else 0
def dgt (p : Nat → Int32) (x : Int32) (i : Nat) : Int32 := ((nI 10 * x) + p i) - nI 48
def vlF (p : Nat → Int32) (i f : Nat) : Int32 := if f = 0 then nI 0 else if f = 1 then dgt p (nI 0) i else dgt p (dgt p (nI 0) i) (i + 1)
def nuP (n : Nat) (p : Nat → Int32) (lo hi : Int32) (s : Nat × Nat) : Int32 × (Nat × Nat) :=
  if s.1 = 0 then (if fgF p (n - s.2) s.2 = 0 ∨ 2 < fgF p (n - s.2) s.2 then (lo, (1, s.2)) else if vlF p s.2 (fgF p (n - s.2) s.2) < lo ∨ hi < vlF p s.2 (fgF p (n - s.2) s.2) then (lo, (2, s.2)) else (vlF p s.2 (fgF p (n - s.2) s.2), (0, s.2 + fgF p (n - s.2) s.2))) else (lo, s)
theorem fgF_le {p : Nat → Int32} : ∀ r i, fgF p r i ≤ r
  | 0, _ => Nat.le_refl _
  | r + 1, i => by
    unfold fgF
    have := fgF_le (p := p) r (i + 1)
    split <;> omega
theorem sgP_ok {n : Nat} {p : Nat → Int32} {c : Int32} {s : Nat × Nat} (h : (sgP n p c s).1 = 0) : s.1 = 0 := by
  unfold sgP at h
  split at h
  · assumption
  · exact h
theorem nuP_ok {n : Nat} {p : Nat → Int32} {lo hi : Int32} {s : Nat × Nat} (h : (nuP n p lo hi s).2.1 = 0) : s.1 = 0 ∧ ¬ (nuP n p lo hi s).1 < lo ∧ ¬ hi < (nuP n p lo hi s).1 := by
  unfold nuP at h ⊢
  by_cases q : s.1 = 0
  · rw [if_pos q] at h ⊢
    by_cases q2 : fgF p (n - s.2) s.2 = 0 ∨ 2 < fgF p (n - s.2) s.2
    · rw [if_pos q2] at h; exact absurd (show (1 : Nat) = 0 from h) (by decide)
    · rw [if_neg q2] at h ⊢
      by_cases q3 : vlF p s.2 (fgF p (n - s.2) s.2) < lo ∨ hi < vlF p s.2 (fgF p (n - s.2) s.2)
      · rw [if_pos q3] at h; exact absurd (show (2 : Nat) = 0 from h) (by decide)
      · rw [if_neg q3]
        exact ⟨q, fun e => q3 (Or.inl e), fun e => q3 (Or.inr e)⟩
  · rw [if_neg q] at h; exact absurd h q
theorem nuP_val {n a b : Nat} {p : Nat → Int32} {s : Nat × Nat} (hb : b < 2 ^ 31) (ha : a < 2 ^ 31) (h : (nuP n p (nI a) (nI b) s).2.1 = 0) : s.1 = 0 ∧ ∃ v, a ≤ v ∧ v ≤ b ∧ (nuP n p (nI a) (nI b) s).1 = nI v := by
  obtain ⟨h1, h2, h3⟩ := nuP_ok h
  rcases zb_rng (nuP n p (nI a) (nI b) s).1 a b ha hb with g | ⟨-, g⟩ | g
  · exact absurd g h2
  · exact absurd g h3
  · exact ⟨h1, g⟩
theorem sgP_b {n : Nat} {p : Nat → Int32} {c : Int32} {s : Nat × Nat} (h : s.2 ≤ n ∧ s.1 ≤ 3) : (sgP n p c s).2 ≤ n ∧ (sgP n p c s).1 ≤ 3 := by
  unfold sgP
  split
  · split
    · rename_i g; exact ⟨g.1, by show (0 : Nat) ≤ 3; decide⟩
    · exact ⟨h.1, by show (1 : Nat) ≤ 3; decide⟩
  · exact h
theorem nuP_b {n : Nat} {p : Nat → Int32} {lo hi : Int32} {s : Nat × Nat} (h : s.2 ≤ n ∧ s.1 ≤ 3) : (nuP n p lo hi s).2.2 ≤ n ∧ (nuP n p lo hi s).2.1 ≤ 3 := by
  have := fgF_le (p := p) (n - s.2) s.2
  unfold nuP
  split
  · split
    · exact ⟨h.1, by show (1 : Nat) ≤ 3; decide⟩
    · split
      · exact ⟨h.1, by show (2 : Nat) ≤ 3; decide⟩
      · exact ⟨by show s.2 + _ ≤ n; omega, by show (0 : Nat) ≤ 3; decide⟩
  · exact h
theorem vlF_s {p : Nat → Int32} {i j : Nat} : vlF p i (j + 1) = if j + 1 ≤ 2 then dgt p (vlF p i j) (i + j) else vlF p i j := by
  unfold vlF
  match j with
  | 0 => rfl
  | 1 => rfl
  | j + 2 => rw [if_neg (by omega), if_neg (by omega), if_neg (by omega), if_neg (by omega), if_neg (by omega)]
-- the class
def cR (M : gh_M) (n : Nat) (p : Nat → Int32) (s : Nat × Nat) : Prop := n ≤ 100 ∧ M 4 0 1 = nI n ∧ (∀ i, i < n → M 5 0 i = p i) ∧ M 4 0 3 = nI s.1 ∧ M 4 0 2 = nI s.2 ∧ s.2 ≤ n ∧ s.1 ≤ 3
theorem cR.at {M : gh_M} {n : Nat} {p : Nat → Int32} {s : Nat × Nat} (h : cR M n p s) {v : Nat} (hv : v ≤ n) {e : Int32} (he : e = nI v) : cR (gh_st M 4 0 2 e) n p (s.1, v) := by
  obtain ⟨h0, h1, h2, h3, h4, h5, h6⟩ := h
  refine ⟨h0, ?_, fun i hi => ?_, ?_, ?_, hv, h6⟩
  · rw [zb_j _ _ _ _ (by omega)]; exact h1
  · rw [zb_k _ _ _ _ _ _ (by omega)]; exact h2 i hi
  · rw [zb_j _ _ _ _ (by omega)]; exact h3
  · rw [zb_s, he]
theorem cR.flt {M : gh_M} {n i : Nat} {p : Nat → Int32} (h : cR M n p (0, i)) {v : Nat} (hv : v ≤ 3) : cR (gh_st M 4 0 3 (nI v)) n p (v, i) := by
  obtain ⟨h0, h1, h2, h3, h4, h5, h6⟩ := h
  refine ⟨h0, ?_, fun i hi => ?_, ?_, ?_, h5, hv⟩
  · rw [zb_j _ _ _ _ (by omega)]; exact h1
  · rw [zb_k _ _ _ _ _ _ (by omega)]; exact h2 i hi
  · rw [zb_s]
  · rw [zb_j _ _ _ _ (by omega)]; exact h4
section CR
variable {M : gh_M} {n : Nat} {p : Nat → Int32} {Q : Int32 → gh_M → Prop}
theorem c_flt0 {i v : Nat} (h : cR M n p (0, i)) (hv : v ≤ 3) (hQ : ∀ M', fk 4 M M' → cR M' n p (v, i) → Q (nI 0) M') : wp_X4_faulty (nI v) M Q := by
  unfold wp_X4_faulty
  rw [h.2.2.2.1]
  refine ⟨fun g => absurd rfl g, fun _ => ?_⟩
  rintro _ rfl
  exact hQ _ fk.refl.st (h.flt hv)
theorem c_flt1 {s : Nat × Nat} {v : Int32} (h : cR M n p s) (h0 : s.1 ≠ 0) (hQ : Q (nI 0) M) : wp_X4_faulty v M Q := by
  unfold wp_X4_faulty
  have h3 := h.2.2.2.1
  have h6 := h.2.2.2.2.2.2
  rw [h3]
  exact ⟨fun _ => hQ, fun g => absurd g (nI_ne0 (by omega) (by omega))⟩
theorem c_nxt {i : Nat} (h : cR M n p (0, i)) (hQ1 : i < n → Q (p i) M) (hQ2 : ¬ i < n → Q (-1000000 : Int32) M) : wp_X4_next M Q := by
  obtain ⟨h0, h1, h2, h3, h4, h5, h6⟩ := h
  have h4 : M 4 0 2 = nI i := h4
  have h5 : i ≤ n := h5
  unfold wp_X4_next
  rw [h1, h4]
  refine ⟨fun g => hQ2 (fun e => nI_ge e (by omega) g), fun g => ⟨fun g2 => ?_, fun _ => ?_⟩⟩
  · have := (nI_leI (by omega) (by omega)).mp g2
    exact absurd (nI_le (by omega) (by omega)) g
  · have g : i < n := Nat.lt_of_not_le (fun e => g (nI_le e (by omega)))
    rw [nI_clamp (by omega), h2 i g]
    exact ⟨vp_in_nI (by omega) (by omega), hQ1 g⟩
theorem c_sgn {s : Nat × Nat} {c : Int32} (hc : c ≠ -1000000) (h : cR M n p s) (hQ : ∀ M', fk 4 M M' → cR M' n p (sgP n p c s) → Q (if (sgP n p c s).1 = 0 then nI 1 else nI 0) M') : wp_X4_readSign c M Q := by
  unfold wp_X4_readSign
  by_cases q : s.1 = 0
  · obtain ⟨s1, i⟩ := s
    have q : s1 = 0 := q
    subst q
    rw [h.2.2.2.1]
    refine ⟨fun g => absurd rfl g, fun _ => c_nxt h (fun hi => ⟨fun g => ?_, fun g => ?_⟩) (fun hi => ⟨fun g => absurd g.symm hc, fun g => ?_⟩)⟩
    · rintro _ rfl
      have e : sgP n p c (0, i) = (0, i + 1) := by unfold sgP; rw [if_pos rfl, if_pos ⟨hi, g⟩]
      have := hQ (gh_st M 4 0 2 (M 4 0 2 + nI 1)) fk.refl.st (by rw [e]; exact h.at (v := i + 1) hi (by rw [h.2.2.2.2.1, nI_add]))
      rw [e] at this
      exact this
    · have e : sgP n p c (0, i) = (1, i) := by unfold sgP; rw [if_pos rfl, if_neg (fun z => g z.2)]
      refine c_flt0 h (by omega) (fun M' f h' => ⟨by decide, ?_⟩)
      have := hQ M' f (by rw [e]; exact h')
      rw [e] at this
      exact this
    · have e : sgP n p c (0, i) = (1, i) := by unfold sgP; rw [if_pos rfl, if_neg (fun z => hi z.1)]
      refine c_flt0 h (by omega) (fun M' f h' => ⟨by decide, ?_⟩)
      have := hQ M' f (by rw [e]; exact h')
      rw [e] at this
      exact this
  · have h6 := h.2.2.2.2.2.2
    have e : sgP n p c s = s := by unfold sgP; rw [if_neg q]
    rw [h.2.2.2.1]
    refine ⟨fun _ => c_flt1 h q ⟨by decide, ?_⟩, fun g => absurd g (nI_ne0 (by omega) (by omega))⟩
    have := hQ M fk.refl (by rw [e]; exact h)
    rw [e, if_neg q] at this
    exact this
/-- the end of a number -/
def ndE (M : gh_M) (Q : Int32 → gh_M → Prop) (x1 x2 x3 x4 : Int32) : Prop := (¬ (M 4 0 3) = 0 → wp_X4_faulty (nI 1) M (fun _ M5 => Q x1 M5)) ∧ ((M 4 0 3) = 0 → ((x3 < (nI 1) → wp_X4_faulty (nI 1) M (fun _ M8 => Q x1 M8)) ∧ (¬ x3 < (nI 1) → ((x3 ≤ (nI 2) → wp_X6_within x4 x1 x2 M (fun r10 M11 => ((¬ r10 = 0 → ∀ M13, M13 = (gh_st M11 4 0 2 ((M11 4 0 2) + x3)) → Q x4 M13) ∧ (r10 = 0 → wp_X4_faulty (nI 2) M11 (fun _ M15 => Q x1 M15))))) ∧ (¬ x3 ≤ (nI 2) → wp_X4_faulty (nI 1) M (fun _ M17 => Q x1 M17))))))
theorem c_nu_l {i F : Nat} {lo hi : Int32} (hn : n ≤ 100) (h1 : M 4 0 1 = nI n) (h2 : ∀ i, i < n → M 5 0 i = p i) (hE : ndE M Q lo hi (nI F) (vlF p i F)) :
    ∀ r j, i + j + r = n → j + fgF p r (i + j) = F → wl_X4_readNumber_11 Q (r + 1) lo hi (nI j) (vlF p i j) (nI (i + j)) M
  | 0, j, hj, hF => by
    have e : j = F := hF
    subst e
    unfold wl_X4_readNumber_11
    rw [h1]
    exact ⟨fun _ => hE, fun g => absurd (nI_le (by omega) (by omega)) g⟩
  | r + 1, j, hj, hF => by
    have ij : i + j < n := by omega
    unfold wl_X4_readNumber_11
    rw [h1, nI_clamp (by omega), h2 _ ij]
    refine ⟨fun g => absurd g (nI_ge ij (by omega)), fun _ => ⟨fun g => absurd g (nI_ge (by omega) (by omega)), fun _ => ⟨vp_in_nI (by omega) (by omega), ?_⟩⟩⟩
    have eF : fgF p (r + 1) (i + j) = if fgb (p (i + j)) = true then fgF p r (i + j + 1) + 1 else 0 := rfl
    rw [eF] at hF
    by_cases q : fgb (p (i + j)) = true
    · rw [if_pos q] at hF
      have q' := q
      unfold fgb at q'
      simp only [Bool.and_eq_true, Bool.not_eq_true', decide_eq_false_iff_not] at q'
      refine w6y q'.1 q'.2 ?_
      refine ⟨fun g => absurd g (by decide), fun _ => ?_⟩
      rintro _ rfl
      have IH := c_nu_l (i := i) hn h1 h2 hE r (j + 1) (by omega) (by rw [← Nat.add_assoc]; omega)
      rw [vlF_s] at IH
      rw [nI_add]
      refine ⟨fun g => ⟨vp_in_nI (by omega) (by omega), ?_⟩, fun g => ?_⟩
      · have g := (nI_leI (by omega) (by omega)).mp g
        rw [if_pos g] at IH
        rintro _ rfl _ rfl
        rw [nI_add, h2 _ ij]
        exact IH
      · have g : ¬ j + 1 ≤ 2 := fun e => g (nI_le e (by omega))
        rw [if_neg g] at IH
        rintro _ rfl
        rw [nI_add]
        exact IH
    · rw [if_neg q] at hF
      have e : j = F := hF
      subst e
      have q' : p (i + j) < nI 48 ∨ nI 57 < p (i + j) := by
        unfold fgb at q
        by_cases a : p (i + j) < nI 48
        · exact Or.inl a
        · by_cases b : nI 57 < p (i + j)
          · exact Or.inr b
          · exact absurd (by simp [a, b]) q
      refine w6n q' ?_
      exact ⟨fun _ => hE, fun g => absurd rfl g⟩
theorem c_num {s : Nat × Nat} {lo hi : Int32} (h : cR M n p s) (hQ : ∀ M', fk 4 M M' → cR M' n p (nuP n p lo hi s).2 → Q (nuP n p lo hi s).1 M') : wp_X4_readNumber lo hi M Q := by
  unfold wp_X4_readNumber
  rintro _ rfl
  obtain ⟨h0, h1, h2, h3, h4, h5, h6⟩ := id h
  rw [h4]
  refine ⟨n - s.2 + 1, ?_⟩
  have hF := fgF_le (p := p) (n - s.2) s.2
  refine c_nu_l (i := s.2) (F := fgF p (n - s.2) s.2) h0 h1 h2 ?_ (n - s.2) 0 (by omega) (by rw [Nat.zero_add, Nat.add_zero])
  unfold ndE
  rw [h3]
  by_cases q : s.1 = 0
  · obtain ⟨s1, i⟩ := s
    have q : s1 = 0 := q
    subst q
    have e : nuP n p lo hi (0, i) = if fgF p (n - i) i = 0 ∨ 2 < fgF p (n - i) i then (lo, (1, i)) else if vlF p i (fgF p (n - i) i) < lo ∨ hi < vlF p i (fgF p (n - i) i) then (lo, (2, i)) else (vlF p i (fgF p (n - i) i), (0, i + fgF p (n - i) i)) := by
      unfold nuP
      rw [if_pos rfl]
    have h5 : i ≤ n := h5
    have hF : fgF p (n - i) i ≤ n - i := hF
    show _ ∧ ((nI 0 = 0) → ((nI (fgF p (n - i) i) < nI 1 → _) ∧ _))
    refine ⟨fun g => absurd rfl g, fun _ => ⟨fun g => ?_, fun g => ⟨fun g2 => ?_, fun g2 => ?_⟩⟩⟩
    · have g := (nI_ltI (by omega) (by omega)).mp g
      rw [if_pos (Or.inl (by omega))] at e
      rw [e] at hQ
      exact c_flt0 h (by omega) (fun M' f h' => hQ M' f h')
    · have g : ¬ fgF p (n - i) i < 1 := fun e => g (nI_lt e (by omega))
      have g2 : nI (fgF p (n - i) i) ≤ nI 2 := g2
      have g2 := (nI_leI (by omega) (by omega)).mp g2
      rw [if_neg (by omega)] at e
      by_cases q : vlF p i (fgF p (n - i) i) < lo ∨ hi < vlF p i (fgF p (n - i) i)
      · rw [if_pos q] at e
        rw [e] at hQ
        refine w6n q ⟨fun g => absurd rfl g, fun _ => c_flt0 h (by omega) (fun M' f h' => hQ M' f h')⟩
      · rw [if_neg q] at e
        rw [e] at hQ
        refine w6y (fun z => q (Or.inl z)) (fun z => q (Or.inr z)) ⟨fun _ => ?_, fun g => absurd g (by decide)⟩
        rintro _ rfl
        have h4 : M 4 0 2 = nI i := h4
        rw [h4, nI_add]
        exact hQ _ fk.refl.st (h.at (s := (0, i)) (by omega) rfl)
    · have g2 : ¬ fgF p (n - i) i ≤ 2 := fun e => g2 (nI_le e (by omega))
      rw [if_pos (by omega)] at e
      rw [e] at hQ
      exact c_flt0 h (by omega) (fun M' f h' => hQ M' f h')
  · have e : nuP n p lo hi s = (lo, s) := by unfold nuP; rw [if_neg q]
    rw [e] at hQ
    exact ⟨fun _ => c_flt1 h q (hQ M fk.refl h), fun g => absurd g (nI_ne0 (by omega) (by omega))⟩
end CR
-- the reference
def rR (M : gh_M) (n : Nat) (p : Nat → Int32) (s : Nat × Nat) : Prop := n ≤ 100 ∧ M 32 0 8 = nI n ∧ (∀ i, i < n → M 37 0 i = p i) ∧ M 32 0 17 = nI s.1 ∧ (s.1 = 0 → M 32 0 16 = nI s.2) ∧ (s.1 ≠ 0 → M 32 0 18 = nI s.2) ∧ s.2 ≤ n ∧ s.1 ≤ 3
def fq (M M' : gh_M) : Prop := ∀ a b i, ¬ (a = 32 ∧ b = 0 ∧ (i = 16 ∨ i = 17 ∨ i = 18)) → M' a b i = M a b i
theorem fq.refl {M : gh_M} : fq M M := fun _ _ _ _ => rfl
theorem fq.tr {A B C : gh_M} (h : fq A B) (g : fq B C) : fq A C := fun a b i q => (g a b i q).trans (h a b i q)
theorem fq.st {A B : gh_M} (h : fq A B) {j : Nat} {v : Int32} (hj : j = 16 ∨ j = 17 ∨ j = 18) : fq A (gh_st B 32 0 j v) := fun a b i q => by rw [zb_st, if_neg (by omega)]; exact h a b i q
theorem rR.mv {M M' : gh_M} {n : Nat} {p : Nat → Int32} {s : Nat × Nat} (h : rR M n p s) (e : ∀ a i, a = 32 ∨ a = 37 → M' a 0 i = M a 0 i) : rR M' n p s := by
  obtain ⟨h0, h1, h2, h3, h4, h5, h6, h7⟩ := h
  exact ⟨h0, by rw [e 32 8 (by omega)]; exact h1, fun i hi => by rw [e 37 i (by omega)]; exact h2 i hi, by rw [e 32 17 (by omega)]; exact h3, fun q => by rw [e 32 16 (by omega)]; exact h4 q, fun q => by rw [e 32 18 (by omega)]; exact h5 q, h6, h7⟩
section RR
variable {M : gh_M} {n : Nat} {p : Nat → Int32}
theorem r_fine {s : Nat × Nat} {Q : Int32 → gh_M → Prop} (h : rR M n p s) (hQ : Q (if s.1 = 0 then nI 1 else nI 0) M) : wp_X7_fine M Q := by
  unfold wp_X7_fine
  have h7 := h.2.2.2.2.2.2.2
  rw [h.2.2.2.1]
  by_cases q : s.1 = 0
  · rw [if_pos q] at hQ
    rw [q]
    exact ⟨fun g => absurd rfl g, fun _ => hQ⟩
  · rw [if_neg q] at hQ
    exact ⟨fun _ => hQ, fun g => absurd g (nI_ne0 (by omega) (by omega))⟩
theorem r_fail0 {i v : Nat} {M1 : gh_M} {Q : gh_M → Prop} (h0 : n ≤ 100) (h1 : M 32 0 8 = nI n) (h2 : ∀ i, i < n → M 37 0 i = p i) (h3 : M 32 0 17 = nI 0) (hf : fq M M1) (e17 : M1 32 0 17 = nI 0) (hi : i ≤ n) (hv : v ≤ 3) (hv0 : v ≠ 0) (hQ : ∀ M', fq M M' → rR M' n p (v, i) → Q M') : wp_X7_fail (nI v) (nI i) M1 Q := by
  unfold wp_X7_fail wp_X7_fine
  rw [e17]
  refine ⟨fun g => absurd rfl g, fun _ => ⟨fun g => absurd g (by decide), fun _ => ?_⟩⟩
  rintro _ rfl _ rfl
  refine hQ _ ((hf.st (by omega)).st (by omega)) ⟨h0, ?_, fun i hi => ?_, ?_, fun q => absurd q hv0, fun _ => ?_, hi, hv⟩
  · rw [zb_j _ _ _ _ (by omega), zb_j _ _ _ _ (by omega), hf 32 0 8 (by omega)]; exact h1
  · rw [zb_k _ _ _ _ _ _ (by omega), zb_k _ _ _ _ _ _ (by omega), hf 37 0 i (by omega)]; exact h2 i hi
  · rw [zb_j _ _ _ _ (by omega), zb_s]
  · rw [zb_s]
theorem r_here {i : Nat} {Q : Int32 → gh_M → Prop} (h : rR M n p (0, i)) (hQ : Q (if i < n then p i else nI 0) M) : wp_X7_here M Q := by
  obtain ⟨h0, h1, h2, h3, h4, h5, h6, h7⟩ := h
  have h4 : M 32 0 16 = nI i := h4 rfl
  have h6 : i ≤ n := h6
  unfold wp_X7_here
  rw [h1, h4]
  refine ⟨fun g => ?_, fun g => ?_⟩
  · have := (nI_leI (by omega) (by omega)).mp g
    rw [if_neg (by omega)] at hQ
    exact hQ
  · have g : i < n := Nat.lt_of_not_le (fun e => g (nI_le e (by omega)))
    rw [if_pos g] at hQ
    rw [nI_clamp (by omega), h2 i g]
    exact ⟨vp_in_nI (by omega) (by omega), hQ⟩
theorem r_sgn {s : Nat × Nat} {c : Int32} {Q : gh_M → Prop} (hc : c ≠ nI 0) (h : rR M n p s) (hQ : ∀ M', fq M M' → rR M' n p (sgP n p c s) → Q M') : wp_X7_sign c M Q := by
  unfold wp_X7_sign
  refine r_fine h ?_
  by_cases q : s.1 = 0
  · obtain ⟨s1, i⟩ := s
    have q : s1 = 0 := q
    subst q
    obtain ⟨h0, h1, h2, h3, h4, h5, h6, h7⟩ := id h
    have h4 : M 32 0 16 = nI i := h4 rfl
    have h6 : i ≤ n := h6
    rw [if_pos rfl]
    refine ⟨fun g => absurd g (by decide), fun _ => r_here h ?_⟩
    by_cases hi : i < n ∧ p i = c
    · rw [if_pos hi.1]
      refine ⟨fun _ => ?_, fun g => absurd hi.2 g⟩
      rintro _ rfl
      have e : sgP n p c (0, i) = (0, i + 1) := by unfold sgP; rw [if_pos rfl, if_pos hi]
      rw [e] at hQ
      have hi1 := hi.1
      refine hQ _ (fq.refl.st (by omega)) ⟨h0, ?_, fun i hi => ?_, ?_, fun _ => ?_, fun g => absurd rfl g, hi1, by show (0 : Nat) ≤ 3; omega⟩
      · rw [zb_j _ _ _ _ (by omega)]; exact h1
      · rw [zb_k _ _ _ _ _ _ (by omega)]; exact h2 i hi
      · rw [zb_j _ _ _ _ (by omega)]; exact h3
      · rw [zb_s, h4, nI_add]
    · have e : sgP n p c (0, i) = (1, i) := by unfold sgP; rw [if_pos rfl, if_neg hi]
      rw [e] at hQ
      have hne : ¬ (if i < n then p i else nI 0) = c := fun g => by
        by_cases g2 : i < n
        · rw [if_pos g2] at g; exact hi ⟨g2, g⟩
        · rw [if_neg g2] at g; exact hc g.symm
      refine ⟨fun g => absurd g hne, fun _ => ?_⟩
      rw [h4]
      refine r_fail0 (M := M) h0 h1 h2 h3 fq.refl h3 h6 (by omega) (by omega) (fun M' f h' => ?_)
      rintro _ rfl
      refine hQ _ (f.st (by omega)) ?_
      obtain ⟨g0, g1, g2, g3, g4, g5, g6, g7⟩ := h'
      refine ⟨g0, ?_, fun i hi => ?_, ?_, fun q => absurd (show (1 : Nat) = 0 from q) (by decide), fun q => ?_, g6, g7⟩
      · rw [zb_j _ _ _ _ (by omega)]; exact g1
      · rw [zb_k _ _ _ _ _ _ (by omega)]; exact g2 i hi
      · rw [zb_j _ _ _ _ (by omega)]; exact g3
      · rw [zb_j _ _ _ _ (by omega)]; exact g5 q
  · rw [if_neg q]
    have e : sgP n p c s = s := by unfold sgP; rw [if_neg q]
    rw [e] at hQ
    exact ⟨fun _ => hQ M fq.refl h, fun g => absurd rfl g⟩
theorem r_nu_l {i F : Nat} {lo hi : Int32} {Q : Int32 → gh_M → Prop} (h0 : n ≤ 100) (h1 : M 32 0 8 = nI n) (h2 : ∀ i, i < n → M 37 0 i = p i) (h3 : M 32 0 17 = nI 0) (hi0 : i ≤ n) (hFn : F ≤ n - i)
    (hQ : ∀ M', fq M M' → rR M' n p (if F = 0 ∨ 2 < F then (1, i) else if vlF p i F < lo ∨ hi < vlF p i F then (2, i) else (0, i + F)) → Q (vlF p i F) M') :
    ∀ r j (M1 : gh_M), i + j + r = n → j + fgF p r (i + j) = F → fq M M1 → M1 32 0 16 = nI (i + j) → M1 32 0 17 = nI 0 → wl_X7_number_17 Q (r + 1) lo hi (nI i) (vlF p i j) M1 := by
  have fin : ∀ (M1 : gh_M), fq M M1 → M1 32 0 16 = nI (i + F) → M1 32 0 17 = nI 0 → (((M1 32 0 16) = nI i → wp_X7_fail (nI 1) (nI i) M1 (fun M10 => Q (vlF p i F) M10)) ∧ (¬ (M1 32 0 16) = nI i → ((((M1 32 0 16) - nI i) ≤ (nI 2) → wp_X7_in (vlF p i F) lo hi M1 (fun r12 M13 => ((¬ r12 = 0 → Q (vlF p i F) M13) ∧ (r12 = 0 → wp_X7_fail (nI 2) (nI i) M13 (fun M16 => Q (vlF p i F) M16))))) ∧ (¬ ((M1 32 0 16) - nI i) ≤ (nI 2) → wp_X7_fail (nI 1) (nI i) M1 (fun M18 => Q (vlF p i F) M18))))) := by
    intro M1 hf e16 e17
    rw [e16, pk_sub (by omega), Nat.add_sub_cancel_left]
    refine ⟨fun g => ?_, fun g => ⟨fun g2 => ?_, fun g2 => ?_⟩⟩
    · have g := zb_nI_inj g (by omega) (by omega)
      rw [if_pos (Or.inl (by omega))] at hQ
      exact r_fail0 h0 h1 h2 h3 hf e17 hi0 (by omega) (by omega) hQ
    · have g : F ≠ 0 := fun e => g (by rw [e, Nat.add_zero])
      have g2 := (nI_leI (by omega) (by omega)).mp g2
      rw [if_neg (by omega)] at hQ
      by_cases q : vlF p i F < lo ∨ hi < vlF p i F
      · rw [if_pos q] at hQ
        exact w7n q ⟨fun g => absurd rfl g, fun _ => r_fail0 h0 h1 h2 h3 hf e17 hi0 (by omega) (by omega) hQ⟩
      · rw [if_neg q] at hQ
        refine w7y (fun z => q (Or.inl z)) (fun z => q (Or.inr z)) ⟨fun _ => hQ M1 hf ?_, fun g => absurd g (by decide)⟩
        exact ⟨h0, by rw [hf 32 0 8 (by omega)]; exact h1, fun i hi => by rw [hf 37 0 i (by omega)]; exact h2 i hi, e17, fun _ => e16, fun g => absurd rfl g, by show i + F ≤ n; omega, by show (0 : Nat) ≤ 3; omega⟩
    · have g2 : ¬ F ≤ 2 := fun e => g2 (nI_le e (by omega))
      rw [if_pos (by omega)] at hQ
      exact r_fail0 h0 h1 h2 h3 hf e17 hi0 (by omega) (by omega) hQ
  intro r
  induction r with
  | zero =>
    intro j M1 hj hF hf e16 e17
    have e : j = F := hF
    subst e
    unfold wl_X7_number_17 wp_X7_isFigure
    rw [hf 32 0 8 (by omega), h1, e16]
    refine ⟨fun _ => ⟨fun _ => ?_, fun g => absurd rfl g⟩, fun g => absurd (nI_le (by omega) (by omega)) g⟩
    exact fin M1 hf e16 e17
  | succ r ih =>
    intro j M1 hj hF hf e16 e17
    have ij : i + j < n := by omega
    unfold wl_X7_number_17 wp_X7_isFigure
    rw [hf 32 0 8 (by omega), h1, e16, nI_clamp (by omega), hf 37 0 _ (by omega), h2 _ ij]
    refine ⟨fun g => absurd g (nI_ge ij (by omega)), fun _ => ⟨vp_in_nI (by omega) (by omega), ?_⟩⟩
    have eF : fgF p (r + 1) (i + j) = if fgb (p (i + j)) = true then fgF p r (i + j + 1) + 1 else 0 := rfl
    rw [eF] at hF
    by_cases q : fgb (p (i + j)) = true
    · rw [if_pos q] at hF
      have q' := q
      unfold fgb at q'
      simp only [Bool.and_eq_true, Bool.not_eq_true', decide_eq_false_iff_not] at q'
      refine w7y q'.1 q'.2 ⟨fun g => absurd g (by decide), fun _ => ⟨fun g => absurd g (by decide), fun _ => ?_⟩⟩
      have IH := ih (j + 1) (gh_st M1 32 0 16 (nI (i + j) + nI 1)) (by omega) (by rw [← Nat.add_assoc]; omega) (hf.st (by omega)) (by rw [zb_s, nI_add]; rfl) (by rw [zb_j _ _ _ _ (by omega)]; exact e17)
      rw [vlF_s] at IH
      rw [e16, pk_sub (by omega), Nat.add_sub_cancel_left, nI_clamp (by omega)]
      refine ⟨fun g => ?_, fun g => ⟨vp_in_nI (by omega) (by omega), ?_⟩⟩
      · have g := (nI_leI (by omega) (by omega)).mp g
        rw [if_neg (by omega)] at IH
        rintro _ rfl
        exact IH
      · have g : ¬ 2 ≤ j := fun e => g (nI_le e (by omega))
        rw [if_pos (by omega)] at IH
        rintro _ rfl _ rfl
        rw [hf 37 0 _ (by omega), h2 _ ij]
        exact IH
    · rw [if_neg q] at hF
      have e : j = F := hF
      subst e
      have q' : p (i + j) < nI 48 ∨ nI 57 < p (i + j) := by
        unfold fgb at q
        by_cases a : p (i + j) < nI 48
        · exact Or.inl a
        · by_cases b : nI 57 < p (i + j)
          · exact Or.inr b
          · exact absurd (by simp [a, b]) q
      refine w7n q' ⟨fun _ => ⟨fun _ => ?_, fun g => absurd rfl g⟩, fun g => absurd rfl g⟩
      exact fin M1 hf e16 e17
theorem r_num {s : Nat × Nat} {lo hi : Int32} {Q : Int32 → gh_M → Prop} (h : rR M n p s) (hQ : ∀ v M', fq M M' → rR M' n p (nuP n p lo hi s).2 → ((nuP n p lo hi s).2.1 = 0 → v = (nuP n p lo hi s).1) → Q v M') : wp_X7_number lo hi M Q := by
  unfold wp_X7_number
  refine r_fine h ?_
  obtain ⟨h0, h1, h2, h3, h4, h5, h6, h7⟩ := id h
  by_cases q : s.1 = 0
  · obtain ⟨s1, i⟩ := s
    have q : s1 = 0 := q
    subst q
    have h4 : M 32 0 16 = nI i := h4 rfl
    have h6 : i ≤ n := h6
    have hF := fgF_le (p := p) (n - i) i
    rw [if_pos rfl]
    refine ⟨fun _ => ?_, fun g => absurd g (by decide)⟩
    rintro _ rfl
    rw [h4]
    refine ⟨n - i + 1, ?_⟩
    have e : nuP n p lo hi (0, i) = if fgF p (n - i) i = 0 ∨ 2 < fgF p (n - i) i then (lo, (1, i)) else if vlF p i (fgF p (n - i) i) < lo ∨ hi < vlF p i (fgF p (n - i) i) then (lo, (2, i)) else (vlF p i (fgF p (n - i) i), (0, i + fgF p (n - i) i)) := by
      unfold nuP
      rw [if_pos rfl]
    refine r_nu_l (M := M) (i := i) (F := fgF p (n - i) i) h0 h1 h2 h3 h6 hF (fun M' f h' => hQ _ M' f ?_ ?_) (n - i) 0 M (by omega) (by rw [Nat.zero_add, Nat.add_zero]) fq.refl (by rw [h4, Nat.add_zero]) h3
    · rw [e]
      revert h'
      split
      · exact fun h => h
      · split
        · exact fun h => h
        · exact fun h => h
    · rw [e]
      split
      · intro g; exact absurd (show (1 : Nat) = 0 from g) (by decide)
      · split
        · intro g; exact absurd (show (2 : Nat) = 0 from g) (by decide)
        · intro _; rfl
  · rw [if_neg q]
    have e : nuP n p lo hi s = (lo, s) := by unfold nuP; rw [if_neg q]
    rw [e] at hQ
    exact ⟨fun g => absurd rfl g, fun _ => hQ lo M fq.refl h (fun g => absurd g q)⟩
end RR
