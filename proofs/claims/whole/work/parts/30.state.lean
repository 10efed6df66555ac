-- WHAT STANDS BETWEEN THE CALLS: the class's memory and the reference's, held to one state
/-- a train: its numbers, how many cells, tricks, cars, the paces -/
abbrev TR : Type := TT × (Nat × Nat × Nat) × (Nat → Nat)
def tb (T : TT) (na : Nat) (b : Nat) : Prop := ∃ k, k ≤ b ∧ T 3 = nI k ∧ ∀ c, c < na → ∃ s, s ≤ 20 * k ∧ T (29 + 7 * c + 5) = nI s
def trOK (X : TR) : Prop := sp_hd X.1 X.2.1.1 X.2.1.2.1 X.2.1.2.2 X.2.2 ∧ 4 ≤ X.2.1.1 ∧ 1 ≤ X.2.1.2.1 ∧ 1 ≤ X.2.1.2.2 ∧ tb X.1 X.2.1.2.2 999
/-- the class's train number t is X -/
def ctr (M : gh_M) (t : Nat) (X : TR) : Prop := cz M t X.2.1.1 X.2.1.2.1 X.2.1.2.2 (M 19 t) M X.1 ∧ ∀ k, k < X.2.1.2.2 → M 19 t k = nI k
-- orders
def nxK (l : List Nat) : Nat → Option Nat
  | 0 => none
  | i + 1 => if l.getD (i + 1) 0 < l.getD i 0 then nxK l i else some i
def nxJ (l : List Nat) (v : Nat) : Nat → Nat
  | 0 => 0
  | j + 1 => if l.getD (j + 1) 0 < v then nxJ l v j else j + 1
def nxS (l : List Nat) (i j : Nat) : List Nat := (l.set i (l.getD j 0)).set j (l.getD i 0)
/-- the next order by numbers -/
def nx (l : List Nat) : Option (List Nat) := match nxK l (l.length - 1) with
  | none => none
  | some k => some ((nxS l k (nxJ l (l.getD k 0) (l.length - 1))).take (k + 1) ++ ((nxS l k (nxJ l (l.getD k 0) (l.length - 1))).drop (k + 1)).reverse)
def pmF : Nat → List Nat → List (List Nat)
  | 0, _ => []
  | f + 1, l => l :: match nx l with
    | none => []
    | some l' => pmF f l'
def pf (l : List Nat) : Nat → Nat := fun k => l.getD k 0
/-- the worth of an order -/
def ov (X : TR) (n : Nat) (l : List Nat) : Int32 := nI 10 * bx_sum (fun c => sp_run X.2.2 (pf l) X.2.1.1 X.2.1.2.1 X.2.1.2.2 n X.1 (29 + 7 * c + 5)) X.2.1.2.2 + nI (fb_ct (sp_th (sp_run X.2.2 (pf l) X.2.1.1 X.2.1.2.1 X.2.1.2.2 n X.1) 3) X.2.1.2.2)
def ordF (X : TR) (n : Nat) : List (List Nat) → Int32 × List Nat → Int32 × List Nat
  | [], a => a
  | l :: r, a => ordF X n r (if a.1 < ov X n l then (ov X n l, l) else a)
def ordS (X : TR) (n : Nat) : Int32 × List Nat := ordF X n (pmF 720 (List.range X.2.1.2.2)) (-1, [])
-- the components: rows (sizes, lanes, items), tape, fault and status, trace, train, acts, images
abbrev SR : Type := (Nat → Option Nat) × (Nat → Int32) × (Nat → Nat → Int32)
def cRow (M : gh_M) (R : SR) : Prop := ∀ r, r < 8 → match R.1 r with
  | none => M 2 r 0 = 0
  | some n => M 2 r 0 = 1 ∧ M 2 r 2 = nI n ∧ n ≤ 40 ∧ M 2 r 1 = R.2.1 r ∧ (R.2.1 r = nI 0 ∨ R.2.1 r = nI 1 ∨ R.2.1 r = nI 2) ∧ ∀ i, i < n → M 3 r i = R.2.2 r i
def rRow (M : gh_M) (R : SR) : Prop := ∀ r, r < 8 → match R.1 r with
  | none => M 40 0 r = (-1 : Int32)
  | some n => M 40 0 r = nI n ∧ M 39 0 r = R.2.1 r ∧ ∀ i, i < n → M 38 0 (40 * r + i) = R.2.2 r i
def cTap (M : gh_M) (n : Nat) (p : Nat → Int32) : Prop := n ≤ 100 ∧ M 4 0 1 = nI n ∧ ∀ i, i < n → M 5 0 i = p i
def rTap (M : gh_M) (n : Nat) (p : Nat → Int32) : Prop := M 32 0 8 = nI n ∧ ∀ i, i < n → M 37 0 i = p i
def cTrc (M : gh_M) (n : Nat) (p : Nat → Int32) : Prop := n ≤ 16 ∧ M 30 0 1 = nI n ∧ ∀ i, i < n → M 31 0 i = p i
def rTrc (M : gh_M) (n : Nat) (p : Nat → Int32) : Prop := M 32 0 15 = nI n ∧ ∀ i, i < n → M 41 0 i = p i
def cTrn (M : gh_M) (o : Option TR) : Prop := match o with
  | none => M 6 0 0 = nI 0 ∧ M 6 0 1 = nI 0 ∧ M 6 0 2 = nI 0 ∧ M 6 0 3 = nI 0
  | some X => trOK X ∧ ctr M 0 X
def rTrn (M : gh_M) (o : Option TR) : Prop := match o with
  | none => M 33 0 0 = nI 0 ∧ M 33 0 1 = nI 0 ∧ M 33 0 2 = nI 0 ∧ M 33 0 3 = nI 0
  | some X => rr M 0 X.1
/-- acts that can be undone: n trains B 0 .. B (n - 1), the oldest first, with the head of the one that stands -/
def cAct (M : gh_M) (o : Option TR) (n : Nat) (B : Nat → TT) : Prop := n ≤ 24 ∧ M 21 0 2 = nI n ∧ (∃ p, p < 24 ∧ M 21 0 1 = nI p ∧ ∀ X, o = some X → ∀ i, i < n → trOK (B i, X.2) ∧ ctr M (2 + (p + 24 - n + i) % 24) (B i, X.2)) ∧ (o = none → n = 0)
def rAct (M : gh_M) (n : Nat) (B : Nat → TT) : Prop := M 32 0 1 = nI n ∧ ∀ i, i < n → rr M (71 + 71 * i) (B i)
def cImg (M : gh_M) (im : Nat → Option TR) : Prop := ∀ k, k < 2 → match im k with
  | none => M 6 (26 + k) 2 = nI 0
  | some X => trOK X ∧ ctr M (26 + k) X
def kb (im : Nat → Option TR) : Nat := (if (im 0).isSome then 1 else 0) + 2 * (if (im 1).isSome then 1 else 0)
def rImg (M : gh_M) (im : Nat → Option TR) : Prop := M 32 0 2 = nI (kb im) ∧ ∀ k, k < 2 → ∀ X, im k = some X → rr M (1775 + 71 * k) X.1
def cBo (M : gh_M) : Prop := ∀ t, t < 29 → bo M t
/-- the order that was found last, if it is kept -/
def cOrd (M : gh_M) (o : Option TR) : Prop := M 24 0 6 = nI 0 ∨ ∃ X n, o = some X ∧ 1 ≤ n ∧ n ≤ 50 ∧ M 24 0 6 = nI n ∧ M 24 0 7 = (ordS X n).1 / nI 10 ∧ ∀ k, k < X.2.1.2.2 → M 26 0 k = nI ((ordS X n).2.getD k 0)
abbrev SS : Type := SR × (Nat × (Nat → Int32)) × (Int32 × Int32) × (Nat × (Nat → Int32)) × Option TR × (Nat × (Nat → TT)) × (Nat → Option TR)
def CS (M : gh_M) (S : SS) : Prop := cBo M ∧ cRow M S.1 ∧ cTap M S.2.1.1 S.2.1.2 ∧ M 0 0 8 = S.2.2.1.1 ∧ M 0 0 9 = S.2.2.1.2 ∧ cTrc M S.2.2.2.1.1 S.2.2.2.1.2 ∧ cTrn M S.2.2.2.2.1 ∧ cAct M S.2.2.2.2.1 S.2.2.2.2.2.1.1 S.2.2.2.2.2.1.2 ∧ cImg M S.2.2.2.2.2.2 ∧ cOrd M S.2.2.2.2.1
def RS (M : gh_M) (S : SS) : Prop := rRow M S.1 ∧ rTap M S.2.1.1 S.2.1.2 ∧ M 32 0 9 = S.2.2.1.1 ∧ M 32 0 13 = S.2.2.1.2 ∧ rTrc M S.2.2.2.1.1 S.2.2.2.1.2 ∧ rTrn M S.2.2.2.2.1 ∧ rAct M S.2.2.2.2.2.1.1 S.2.2.2.2.2.1.2 ∧ rImg M S.2.2.2.2.2.2
/-- what a call must do -/
def OKn (M : gh_M) : Prop := ∃ S, CS M S ∧ RS M S
-- frames
/-- the class's part, the reference's part stay -/
def fC (M M' : gh_M) : Prop := ∀ a b, a < 32 → M' a b = M a b
def fR (M M' : gh_M) : Prop := ∀ a b, 32 ≤ a → M' a b = M a b
theorem fC.refl {M : gh_M} : fC M M := fun _ _ _ => rfl
theorem fR.refl {M : gh_M} : fR M M := fun _ _ _ => rfl
theorem fC.tr {A B C : gh_M} (h : fC A B) (g : fC B C) : fC A C := fun a b q => (g a b q).trans (h a b q)
theorem fR.tr {A B C : gh_M} (h : fR A B) (g : fR B C) : fR A C := fun a b q => (g a b q).trans (h a b q)
theorem fC.st {A B : gh_M} (h : fC A B) {k t j : Nat} {v : Int32} (hk : 32 ≤ k) : fC A (gh_st B k t j v) := fun a b q => by rw [zb_kr _ _ _ _ _ (by omega)]; exact h a b q
theorem fR.st {A B : gh_M} (h : fR A B) {k t j : Nat} {v : Int32} (hk : k < 32) : fR A (gh_st B k t j v) := fun a b q => by rw [zb_kr _ _ _ _ _ (by omega)]; exact h a b q
theorem fs.fC {M M' : gh_M} (h : fs M M') : fC M M' := fun a b q => funext fun i => h a b i (by omega) (by omega) (by omega)
theorem ft.fR {t : Nat} {M M' : gh_M} (h : ft t M M') : fR M M' := fun a b q => h a b (by omega)
theorem cz.mv {M M' : gh_M} {t nc nt na : Nat} {T : TT} (h : cz M t nc nt na (M 19 t) M T) (e : ∀ a, 6 ≤ a → a ≤ 20 → M' a t = M a t) : cz M' t nc nt na (M' 19 t) M' T := by
  obtain ⟨I, ⟨⟨s0, s1, s2, s3, hk, hc⟩, hR, hI0, hK0, hb, hf⟩, hI, hw⟩ := h
  refine ⟨I, ⟨⟨?_, ?_, ?_, ?_, fun i hi f hf2 => ?_, fun c hc2 f hf2 => ?_⟩, ?_, fun i => ?_, fun i => rfl, ⟨fun i hi => ?_, fun i hi => ?_⟩, ft.refl⟩, hI, hw⟩
  · rw [e 6 (by omega) (by omega)]; exact s0
  · rw [e 6 (by omega) (by omega)]; exact s1
  · rw [e 6 (by omega) (by omega)]; exact s2
  · rw [e 6 (by omega) (by omega)]; exact s3
  · rw [e _ (by omega) (by omega)]; exact hk i hi f hf2
  · rw [e _ (by omega) (by omega)]; exact hc c hc2 f hf2
  · rw [e 6 (by omega) (by omega)]; exact hR
  · rw [e 20 (by omega) (by omega)]; exact hI0 i
  · rw [e 10 (by omega) (by omega)]; exact hb.1 i hi
  · rw [e 18 (by omega) (by omega)]; exact hb.2 i hi
theorem ctr.mv {M M' : gh_M} {t : Nat} {X : TR} (h : ctr M t X) (e : ∀ a, 6 ≤ a → a ≤ 20 → M' a t = M a t) : ctr M' t X :=
  ⟨h.1.mv e, fun k hk => by rw [e 19 (by omega) (by omega)]; exact h.2 k hk⟩
theorem cRow.mv {M M' : gh_M} {R : SR} (h : cRow M R) (e : ∀ a b, a = 2 ∨ a = 3 → M' a b = M a b) : cRow M' R := by
  intro r hr
  have := h r hr
  cases q : R.1 r with
  | none => rw [q] at this; show M' 2 r 0 = 0; rw [e 2 r (by omega)]; exact this
  | some n =>
    rw [q] at this
    obtain ⟨h1, h2, h3, h4, h5, h6⟩ := this
    exact ⟨by rw [e 2 r (by omega)]; exact h1, by rw [e 2 r (by omega)]; exact h2, h3, by rw [e 2 r (by omega)]; exact h4, h5, fun i hi => by rw [e 3 r (by omega)]; exact h6 i hi⟩
theorem rRow.mv {M M' : gh_M} {R : SR} (h : rRow M R) (e : ∀ a i, a = 38 ∨ a = 39 ∨ a = 40 → M' a 0 i = M a 0 i) : rRow M' R := by
  intro r hr
  have := h r hr
  cases q : R.1 r with
  | none => rw [q] at this; show M' 40 0 r = -1; rw [e 40 r (by omega)]; exact this
  | some n =>
    rw [q] at this
    obtain ⟨h1, h2, h3⟩ := this
    exact ⟨by rw [e 40 r (by omega)]; exact h1, by rw [e 39 r (by omega)]; exact h2, fun i hi => by rw [e 38 _ (by omega)]; exact h3 i hi⟩
theorem cTrn.mv {M M' : gh_M} {o : Option TR} (h : cTrn M o) (e : ∀ a, 6 ≤ a → a ≤ 20 → M' a 0 = M a 0) : cTrn M' o := by
  cases o with
  | none =>
    have e6 := e 6 (by omega) (by omega)
    show M' 6 0 0 = nI 0 ∧ M' 6 0 1 = nI 0 ∧ M' 6 0 2 = nI 0 ∧ M' 6 0 3 = nI 0
    rw [e6]
    exact h
  | some X => exact ⟨h.1, h.2.mv e⟩
theorem cAct.mv {M M' : gh_M} {o : Option TR} {n : Nat} {B : Nat → TT} (h : cAct M o n B) (e : ∀ a t, 6 ≤ a → a ≤ 20 → 2 ≤ t → t < 26 → M' a t = M a t) (e2 : M' 21 0 = M 21 0) : cAct M' o n B := by
  obtain ⟨h1, h2, ⟨p, hp, h3, h4⟩, h5⟩ := h
  refine ⟨h1, by rw [e2]; exact h2, ⟨p, hp, by rw [e2]; exact h3, fun X hX i hi => ⟨(h4 X hX i hi).1, (h4 X hX i hi).2.mv (fun a ha hb => e a _ ha hb (by omega) (by omega))⟩⟩, h5⟩
theorem cImg.mv {M M' : gh_M} {im : Nat → Option TR} (h : cImg M im) (e : ∀ a t, 6 ≤ a → a ≤ 20 → 26 ≤ t → t < 28 → M' a t = M a t) : cImg M' im := by
  intro k hk
  have := h k hk
  cases q : im k with
  | none => rw [q] at this; show M' 6 (26 + k) 2 = nI 0; rw [e 6 _ (by omega) (by omega) (by omega) (by omega)]; exact this
  | some X => rw [q] at this; exact ⟨this.1, this.2.mv (fun a ha hb => e a _ ha hb (by omega) (by omega))⟩
theorem cOrd.mv {M M' : gh_M} {o : Option TR} (h : cOrd M o) (e : M' 24 0 6 = M 24 0 6) (e7 : M' 24 0 7 = M 24 0 7) (e26 : M' 26 0 = M 26 0) : cOrd M' o := by
  unfold cOrd
  rw [e, e7, e26]
  exact h
/-- all of the class's part but what is tried (train 28, the rows of the search) stays -/
def ff (M M' : gh_M) : Prop := ∀ a b, ¬ (b = 28 ∧ 6 ≤ a ∧ a ≤ 20) → ¬ (a = 25 ∨ a = 27 ∨ a = 28 ∨ a = 29) → M' a b = M a b
theorem ff.refl {M : gh_M} : ff M M := fun _ _ _ _ => rfl
theorem ff.tr {A B C : gh_M} (h : ff A B) (g : ff B C) : ff A C := fun a b q r => (g a b q r).trans (h a b q r)
theorem ft.ff {M M' : gh_M} (h : ft 28 M M') : ff M M' := fun a b q _ => h a b q
theorem ff.st {A B : gh_M} (h : ff A B) {k t j : Nat} {v : Int32} (hk : k = 25 ∨ k = 27 ∨ k = 28 ∨ k = 29) : ff A (gh_st B k t j v) := fun a b q r => by rw [zb_kr _ _ _ _ _ (by omega)]; exact h a b q r
theorem ff.fR {M M' : gh_M} (h : ff M M') : fR M M' := fun a b q => h a b (by omega) (by omega)
theorem CS.ffc {M M' : gh_M} {S : SS} (h : CS M S) (e : ∀ a b, a < 32 → ¬ (b = 28 ∧ 6 ≤ a ∧ a ≤ 20) → ¬ (a = 25 ∨ a = 27 ∨ a = 28 ∨ a = 29) → M' a b = M a b) (hb : bo M' 28) : CS M' S := by
  obtain ⟨h0, h1, h2, h3, h4, h5, h6, h7, h8, h9⟩ := h
  refine ⟨fun t ht => ?_, h1.mv (fun a b q => e a b (by omega) (by omega) (by omega)), ?_, ?_, ?_, ?_, h6.mv (fun a q1 q2 => e a 0 (by omega) (by omega) (by omega)), h7.mv (fun a t q1 q2 q3 q4 => e a t (by omega) (by omega) (by omega)) (e 21 0 (by omega) (by omega) (by omega)), h8.mv (fun a t q1 q2 q3 q4 => e a t (by omega) (by omega) (by omega)), h9.mv ?_ ?_ ?_⟩
  · by_cases q : t = 28
    · subst q; exact hb
    · have := h0 t ht
      unfold bo at this ⊢
      rw [e 10 t (by omega) (by omega) (by omega), e 18 t (by omega) (by omega) (by omega)]
      exact this
  · unfold cTap at h2 ⊢
    rw [e 4 0 (by omega) (by omega) (by omega), e 5 0 (by omega) (by omega) (by omega)]
    exact h2
  · rw [e 0 0 (by omega) (by omega) (by omega)]; exact h3
  · rw [e 0 0 (by omega) (by omega) (by omega)]; exact h4
  · unfold cTrc at h5 ⊢
    rw [e 30 0 (by omega) (by omega) (by omega), e 31 0 (by omega) (by omega) (by omega)]
    exact h5
  · rw [e 24 0 (by omega) (by omega) (by omega)]
  · rw [e 24 0 (by omega) (by omega) (by omega)]
  · rw [e 26 0 (by omega) (by omega) (by omega)]
theorem RS.fsr {M M' : gh_M} {S : SS} (h : RS M S) (e : ∀ a b i, 32 ≤ a → ¬ (a = 33 ∧ b = 0 ∧ 1917 ≤ i) → ¬ (a = 32 ∧ b = 0 ∧ (i = 5 ∨ i = 16 ∨ i = 17 ∨ i = 18)) → ¬ (a = 34 ∨ a = 35 ∨ a = 36 ∨ a = 42 ∨ a = 43 ∨ a = 44) → M' a b i = M a b i) (hk : S.2.2.2.2.2.1.1 ≤ 24) : RS M' S := by
  obtain ⟨h1, h2, h3, h4, h5, h6, h7, h8⟩ := h
  have er : ∀ x T, x + 71 ≤ 1917 → rr M x T → rr M' x T := fun x T hx g i hi => (e 33 0 (x + i) (by omega) (by omega) (by omega) (by omega)).trans (g i hi)
  refine ⟨h1.mv (fun a i q => e a 0 i (by omega) (by omega) (by omega) (by omega)), ⟨?_, fun i hi => ?_⟩, ?_, ?_, ⟨?_, fun i hi => ?_⟩, ?_, ⟨?_, fun i hi => ?_⟩, ⟨?_, fun k hk X hX => ?_⟩⟩
  · rw [e 32 0 8 (by omega) (by omega) (by omega) (by omega)]; exact h2.1
  · rw [e 37 0 i (by omega) (by omega) (by omega) (by omega)]; exact h2.2 i hi
  · rw [e 32 0 9 (by omega) (by omega) (by omega) (by omega)]; exact h3
  · rw [e 32 0 13 (by omega) (by omega) (by omega) (by omega)]; exact h4
  · rw [e 32 0 15 (by omega) (by omega) (by omega) (by omega)]; exact h5.1
  · rw [e 41 0 i (by omega) (by omega) (by omega) (by omega)]; exact h5.2 i hi
  · unfold rTrn at h6 ⊢
    cases q : S.2.2.2.2.1 with
    | none =>
      rw [q] at h6
      show M' 33 0 0 = nI 0 ∧ M' 33 0 1 = nI 0 ∧ M' 33 0 2 = nI 0 ∧ M' 33 0 3 = nI 0
      rw [e 33 0 0 (by omega) (by omega) (by omega) (by omega), e 33 0 1 (by omega) (by omega) (by omega) (by omega), e 33 0 2 (by omega) (by omega) (by omega) (by omega), e 33 0 3 (by omega) (by omega) (by omega) (by omega)]
      exact h6
    | some X => rw [q] at h6; exact er _ _ (by omega) h6
  · rw [e 32 0 1 (by omega) (by omega) (by omega) (by omega)]; exact h7.1
  · exact er _ _ (by omega) (h7.2 i hi)
  · rw [e 32 0 2 (by omega) (by omega) (by omega) (by omega)]; exact h8.1
  · exact er _ _ (by omega) (h8.2 k hk X hX)
theorem CS.ff {M M' : gh_M} {S : SS} (h : CS M S) (e : ff M M') (hb : bo M' 28) : CS M' S := h.ffc (fun a b _ => e a b) hb
theorem RS.fs {M M' : gh_M} {S : SS} (h : RS M S) (e : fs M M') (hk : S.2.2.2.2.2.1.1 ≤ 24) : RS M' S := h.fsr (fun a b i _ => e a b i) hk
theorem CS.fC {M M' : gh_M} {S : SS} (h : CS M S) (e : fC M M') : CS M' S := h.ffc (fun a b q _ _ => e a b q) (by
  have := h.1 28 (by omega)
  unfold bo at this ⊢
  rw [e 10 28 (by omega), e 18 28 (by omega)]
  exact this)
theorem RS.fR {M M' : gh_M} {S : SS} (h : RS M S) (e : fR M M') (hk : S.2.2.2.2.2.1.1 ≤ 24) : RS M' S :=
  h.fsr (fun a b i q _ _ _ => by rw [e a b q]) hk
theorem CS.n24 {M : gh_M} {S : SS} (h : CS M S) : S.2.2.2.2.2.1.1 ≤ 24 := h.2.2.2.2.2.2.2.1.1
