-- THE TRAIN, AND ITS TICK, as mathematics: a train is a row T of 71 numbers (cells, tricks, cars, tick; tricks from 4 by 5; cars from 29 by 7)
abbrev TT : Type := Nat → Int32
/-- the head of a train: how many cells, tricks, cars, the paces -/
def sp_hd (T : TT) (nc nt na : Nat) (pc : Nat → Nat) : Prop := T 0 = nI nc ∧ T 1 = nI nt ∧ T 2 = nI na ∧ nc ≤ 12 ∧ nt ≤ 5 ∧ na ≤ 6 ∧ ∀ c, c < na → T (29 + 7 * c + 2) = nI (pc c) ∧ pc c ≤ 3
/-- no other car runs -/
def sp_al (T : TT) (na car : Nat) : Prop := ∀ c, c < na → c ≠ car → nI 20 ≤ T (29 + 7 * c + 3)
def sp_alb (T : TT) (na car : Nat) : Bool := (List.range na).all (fun c => decide (c = car) || decide (nI 20 ≤ T (29 + 7 * c + 3)))
theorem sp_alb_iff (T : TT) (na car : Nat) : sp_alb T na car = true ↔ sp_al T na car := by
  unfold sp_alb sp_al
  rw [List.all_eq_true]
  constructor
  · intro h c hc hne
    have := h c (List.mem_range.mpr hc)
    simp only [Bool.or_eq_true, decide_eq_true_eq] at this
    exact this.resolve_left hne
  · intro h c hc
    simp only [Bool.or_eq_true, decide_eq_true_eq]
    by_cases hne : c = car
    · exact Or.inl hne
    · exact Or.inr (h c (List.mem_range.mp hc) hne)
/-- by how much a trick that was just met frightens -/
def sp_fr (T : TT) (na t car : Nat) : Int32 :=
  if T (4 + 5 * t) = nI 1 then T (4 + 5 * t + 2)
  else if T (4 + 5 * t) = nI 2 then (if T (4 + 5 * t + 4) - T (4 + 5 * t + 4) / nI 2 * nI 2 = 0 then T (4 + 5 * t + 2) else nI 0)
  else if T (4 + 5 * t) = nI 3 then (if sp_alb T na car = true then nI 2 * T (4 + 5 * t + 2) else T (4 + 5 * t + 2))
  else if T (4 + 5 * t) = nI 4 then T (4 + 5 * t + 2) * T (29 + 7 * car)
  else (if T 3 - T 3 / nI 2 * nI 2 = nI 1 then T (4 + 5 * t + 2) * T (29 + 7 * car) else nI 0)
/-- one trick is met, if it is on, and there -/
def sp_met (T : TT) (t : Nat) : TT := upd T (4 + 5 * t + 4) (T (4 + 5 * t + 4) + (if nI 999 ≤ T (4 + 5 * t + 4) then nI 0 else nI 1))
def sp_fri (T : TT) (na car t : Nat) : TT := upd T (29 + 7 * car + 4) (T (29 + 7 * car + 4) + sp_fr T na t car)
def sp_m1 (T : TT) (na car : Nat) (j : Int32) (t : Nat) : TT :=
  if T (4 + 5 * t + 3) = nI 1 ∧ T (4 + 5 * t + 1) = j then sp_fri (sp_met T t) na car t else T
def sp_ms (T : TT) (na car : Nat) (j : Int32) : Nat → TT
  | 0 => T
  | n + 1 => sp_m1 (sp_ms T na car j n) na car j n
/-- it screams -/
def sp_sc (T : TT) (car : Nat) : TT := upd (upd (upd T (29 + 7 * car + 5) (T (29 + 7 * car + 5) + nI 1)) (29 + 7 * car + 4) (nI 0)) (29 + 7 * car + 6) (nI 1)
def sp_c0 (T : TT) (na nt car : Nat) (j : Int32) : TT := sp_ms (upd T (29 + 7 * car + 3) j) na car j nt
def sp_scr (T : TT) (car : Nat) : Prop := T (29 + 7 * car + 1) ≤ T (29 + 7 * car + 4)
def sp_co (T : TT) (na nt car : Nat) (j : Int32) : TT :=
  if (sp_c0 T na nt car j) (29 + 7 * car + 1) ≤ (sp_c0 T na nt car j) (29 + 7 * car + 4) then sp_sc (sp_c0 T na nt car j) car else sp_c0 T na nt car j
/-- the first car whose place is v -/
def sp_inF (T : TT) (v : Int32) : Nat → Nat → Option Nat
  | _, 0 => none
  | c, r + 1 => if T (29 + 7 * c + 3) = v then some c else sp_inF T v (c + 1) r
def sp_in (T : TT) (na : Nat) (v : Int32) : Option Nat := sp_inF T v 0 na
/-- a car goes, so many cells yet -/
def sp_goF (na nt car : Nat) : Nat → TT → TT
  | 0, T => T
  | k + 1, T =>
    if T (29 + 7 * car + 3) + nI 1 = T 0 then upd T (29 + 7 * car + 3) (nI 21)
    else if (sp_in T na (T (29 + 7 * car + 3) + nI 1)).isSome then T
    else if (sp_c0 T na nt car (T (29 + 7 * car + 3) + nI 1)) (29 + 7 * car + 1) ≤ (sp_c0 T na nt car (T (29 + 7 * car + 3) + nI 1)) (29 + 7 * car + 4) then sp_co T na nt car (T (29 + 7 * car + 3) + nI 1)
    else sp_goF na nt car k (sp_co T na nt car (T (29 + 7 * car + 3) + nI 1))
def sp_go (pc : Nat → Nat) (T : TT) (na nt car : Nat) : TT := if T (29 + 7 * car + 6) = nI 1 then upd T (29 + 7 * car + 6) (nI 0) else sp_goF na nt car (pc car) T
/-- the cells below j, from the highest on -/
def sp_cl (pc : Nat → Nat) (na nt : Nat) : Nat → TT → TT
  | 0, T => T
  | j + 1, T => sp_cl pc na nt j (match sp_in T na (nI j) with
    | none => T
    | some c => sp_go pc T na nt c)
/-- the next one comes in, by rank from k on, r of them -/
def sp_le (rk : Nat → Nat) (na nt : Nat) : Nat → Nat → TT → TT
  | _, 0, T => T
  | k, r + 1, T => if (sp_in T na (nI 0)).isSome then T else sp_le rk na nt (k + 1) r (if T (29 + 7 * rk k + 3) = nI 20 then sp_co T na nt (rk k) (nI 0) else T)
def sp_tk (pc rk : Nat → Nat) (nc nt na : Nat) (T : TT) : TT :=
  upd (sp_le rk na nt 0 na (sp_cl pc na nt nc T)) 3 ((sp_le rk na nt 0 na (sp_cl pc na nt nc T)) 3 + nI 1)
def sp_run (pc rk : Nat → Nat) (nc nt na : Nat) : Nat → TT → TT
  | 0, T => T
  | n + 1, T => sp_run pc rk nc nt na n (sp_tk pc rk nc nt na T)
-- what a tick leaves as it is
/-- places that a tick may change: the tick, met of tricks, place, fear, screams, halted of cars -/
def sp_ch (i : Nat) : Prop := i = 3 ∨ (∃ t, t < 5 ∧ i = 4 + 5 * t + 4) ∨ ∃ c, c < 6 ∧ (i = 29 + 7 * c + 3 ∨ i = 29 + 7 * c + 4 ∨ i = 29 + 7 * c + 5 ∨ i = 29 + 7 * c + 6)
def sp_kp (T T' : TT) : Prop := ∀ i, ¬ sp_ch i → T' i = T i
theorem sp_kp.rf (T : TT) : sp_kp T T := fun _ _ => rfl
theorem sp_kp.tr {A B C : TT} (h : sp_kp A B) (g : sp_kp B C) : sp_kp A C := fun i hi => (g i hi).trans (h i hi)
theorem sp_kp.up {T : TT} {i : Nat} {v : Int32} (h : sp_ch i) : sp_kp T (upd T i v) := fun j hj => pk_un (fun e => hj (e ▸ h))
theorem sp_hd.kp {T T' : TT} {nc nt na : Nat} {pc : Nat → Nat} (h : sp_hd T nc nt na pc) (g : sp_kp T T') : sp_hd T' nc nt na pc := by
  obtain ⟨h0, h1, h2, h3, h4, h5, h6⟩ := h
  refine ⟨(g 0 ?_).trans h0, (g 1 ?_).trans h1, (g 2 ?_).trans h2, h3, h4, h5, fun c hc => ⟨(g _ ?_).trans (h6 c hc).1, (h6 c hc).2⟩⟩
  all_goals (unfold sp_ch; rintro (h | ⟨t, ht, h⟩ | ⟨c, hc, h | h | h | h⟩) <;> omega)
theorem sp_ch3 : sp_ch 3 := Or.inl rfl
theorem sp_chM {t : Nat} (h : t < 5) : sp_ch (4 + 5 * t + 4) := Or.inr (Or.inl ⟨t, h, rfl⟩)
theorem sp_chW {c : Nat} (h : c < 6) : sp_ch (29 + 7 * c + 3) := Or.inr (Or.inr ⟨c, h, Or.inl rfl⟩)
theorem sp_chF {c : Nat} (h : c < 6) : sp_ch (29 + 7 * c + 4) := Or.inr (Or.inr ⟨c, h, Or.inr (Or.inl rfl)⟩)
theorem sp_chS {c : Nat} (h : c < 6) : sp_ch (29 + 7 * c + 5) := Or.inr (Or.inr ⟨c, h, Or.inr (Or.inr (Or.inl rfl))⟩)
theorem sp_chH {c : Nat} (h : c < 6) : sp_ch (29 + 7 * c + 6) := Or.inr (Or.inr ⟨c, h, Or.inr (Or.inr (Or.inr rfl))⟩)
theorem sp_m1_kp (T : TT) (na : Nat) {car : Nat} (j : Int32) {t : Nat} (hc : car < 6) (ht : t < 5) : sp_kp T (sp_m1 T na car j t) := by
  unfold sp_m1
  split
  · exact (sp_kp.up (sp_chM ht)).tr (sp_kp.up (sp_chF hc))
  · exact sp_kp.rf T
theorem sp_ms_kp (T : TT) (na : Nat) {car : Nat} (j : Int32) (hc : car < 6) : ∀ n, n ≤ 5 → sp_kp T (sp_ms T na car j n)
  | 0, _ => sp_kp.rf T
  | n + 1, h => (sp_ms_kp T na j hc n (by omega)).tr (sp_m1_kp _ na j hc (by omega))
theorem sp_c0_kp (T : TT) (na : Nat) {nt car : Nat} (j : Int32) (hc : car < 6) (hn : nt ≤ 5) : sp_kp T (sp_c0 T na nt car j) :=
  (sp_kp.up (sp_chW hc)).tr (sp_ms_kp _ na j hc nt hn)
theorem sp_sc_kp (T : TT) {car : Nat} (hc : car < 6) : sp_kp T (sp_sc T car) := ((sp_kp.up (sp_chS hc)).tr (sp_kp.up (sp_chF hc))).tr (sp_kp.up (sp_chH hc))
theorem sp_co_kp (T : TT) (na : Nat) {nt car : Nat} (j : Int32) (hc : car < 6) (hn : nt ≤ 5) : sp_kp T (sp_co T na nt car j) := by
  unfold sp_co
  split
  · exact (sp_c0_kp T na j hc hn).tr (sp_sc_kp _ hc)
  · exact sp_c0_kp T na j hc hn
theorem sp_goF_kp {na nt car : Nat} (hc : car < 6) (hn : nt ≤ 5) : ∀ (k : Nat) (T : TT), sp_kp T (sp_goF na nt car k T)
  | 0, T => sp_kp.rf T
  | k + 1, T => by
    unfold sp_goF
    split
    · exact sp_kp.up (sp_chW hc)
    · split
      · exact sp_kp.rf T
      · split
        · exact sp_co_kp T na _ hc hn
        · exact (sp_co_kp T na _ hc hn).tr (sp_goF_kp hc hn k _)
theorem sp_go_kp {pc : Nat → Nat} {na nt car : Nat} (T : TT) (hc : car < 6) (hn : nt ≤ 5) : sp_kp T (sp_go pc T na nt car) := by
  unfold sp_go
  split
  · exact sp_kp.up (sp_chH hc)
  · exact sp_goF_kp hc hn _ T
theorem sp_inF_some {T : TT} {v : Int32} : ∀ {c r a : Nat}, sp_inF T v c r = some a → c ≤ a ∧ a < c + r ∧ T (29 + 7 * a + 3) = v ∧ ∀ b, c ≤ b → b < a → T (29 + 7 * b + 3) ≠ v
  | _, 0, _, h => by cases h
  | c, r + 1, a, h => by
    unfold sp_inF at h
    split at h
    · next e =>
      cases h
      exact ⟨Nat.le_refl _, by omega, e, fun b h1 h2 => by omega⟩
    · next e =>
      obtain ⟨h1, h2, h3, h4⟩ := sp_inF_some h
      refine ⟨by omega, by omega, h3, fun b g1 g2 => ?_⟩
      by_cases hb : b = c
      · subst hb; exact e
      · exact h4 b (by omega) g2
theorem sp_inF_none {T : TT} {v : Int32} : ∀ {c r : Nat}, sp_inF T v c r = none → ∀ b, c ≤ b → b < c + r → T (29 + 7 * b + 3) ≠ v
  | c, 0, _, b, h1, h2 => by omega
  | c, r + 1, h, b, h1, h2 => by
    unfold sp_inF at h
    split at h
    · cases h
    · next e =>
      by_cases hb : b = c
      · subst hb; exact e
      · exact sp_inF_none h b (by omega) (by omega)
theorem sp_in_some {T : TT} {v : Int32} {na a : Nat} (h : sp_in T na v = some a) : a < na ∧ T (29 + 7 * a + 3) = v := by
  obtain ⟨-, h2, h3, -⟩ := sp_inF_some h
  exact ⟨by omega, h3⟩
theorem sp_in_none {T : TT} {v : Int32} {na : Nat} (h : sp_in T na v = none) : ∀ b, b < na → T (29 + 7 * b + 3) ≠ v := fun b hb => sp_inF_none h b (Nat.zero_le _) (by omega)
theorem sp_cl_kp {pc : Nat → Nat} {na nt : Nat} (ha : na ≤ 6) (hn : nt ≤ 5) : ∀ (j : Nat) (T : TT), sp_kp T (sp_cl pc na nt j T)
  | 0, T => sp_kp.rf T
  | j + 1, T => by
    unfold sp_cl
    refine sp_kp.tr ?_ (sp_cl_kp ha hn j _)
    cases h : sp_in T na (nI j) with
    | none => exact sp_kp.rf T
    | some c => exact sp_go_kp T (by have := (sp_in_some h).1; omega) hn
theorem sp_le_kp {rk : Nat → Nat} {na nt : Nat} (hr : ∀ k, k < na → rk k < 6) (hn : nt ≤ 5) : ∀ (r k : Nat) (T : TT), k + r ≤ na → sp_kp T (sp_le rk na nt k r T)
  | 0, _, T, _ => sp_kp.rf T
  | r + 1, k, T, h => by
    unfold sp_le
    split
    · exact sp_kp.rf T
    · refine sp_kp.tr ?_ (sp_le_kp hr hn r (k + 1) _ (by omega))
      split
      · exact sp_co_kp T na _ (hr k (by omega)) hn
      · exact sp_kp.rf T
theorem sp_tk_kp {pc rk : Nat → Nat} {nc nt na : Nat} (ha : na ≤ 6) (hn : nt ≤ 5) (hr : ∀ k, k < na → rk k < 6) (T : TT) : sp_kp T (sp_tk pc rk nc nt na T) :=
  ((sp_cl_kp ha hn nc T).tr (sp_le_kp hr hn na 0 _ (by omega))).tr (sp_kp.up sp_ch3)
theorem sp_run_kp {pc rk : Nat → Nat} {nc nt na : Nat} (ha : na ≤ 6) (hn : nt ≤ 5) (hr : ∀ k, k < na → rk k < 6) : ∀ (n : Nat) (T : TT), sp_kp T (sp_run pc rk nc nt na n T)
  | 0, T => sp_kp.rf T
  | n + 1, T => (sp_tk_kp ha hn hr T).tr (sp_run_kp ha hn hr n _)
