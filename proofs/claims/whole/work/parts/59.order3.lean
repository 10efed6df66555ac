-- ORDER: the best of all is the best of the firsts
def enF (a : Nat) (l : List Nat) : Nat := l.foldl (fun a x => 7 * a + x + 1) a
theorem enF_inj : ∀ (l l' : List Nat) (a a' : Nat), l.length = l'.length → (∀ x, x ∈ l → x < 6) → (∀ x, x ∈ l' → x < 6) → enF a l = enF a' l' → a = a' ∧ l = l'
  | [], [], a, a', _, _, _, h => ⟨h, rfl⟩
  | [], y :: l', a, a', hl, _, _, _ => by cases hl
  | x :: l, [], a, a', hl, _, _, _ => by cases hl
  | x :: l, y :: l', a, a', hl, h1, h2, h => by
    have hl' : l.length = l'.length := by simpa using hl
    have hx := h1 x (List.mem_cons_self ..)
    have hy := h2 y (List.mem_cons_self ..)
    obtain ⟨e, el⟩ := enF_inj l l' (7 * a + x + 1) (7 * a' + y + 1) hl' (fun z hz => h1 z (List.mem_cons_of_mem _ hz)) (fun z hz => h2 z (List.mem_cons_of_mem _ hz)) h
    have : x = y := by omega
    subst this
    exact ⟨by omega, by rw [el]⟩
theorem enc_inj {l l' : List Nat} (hl : l.length = l'.length) (h1 : ∀ x, x ∈ l → x < 6) (h2 : ∀ x, x ∈ l' → x < 6) (h : enc l = enc l') : l = l' := (enF_inj l l' 0 0 hl h1 h2 h).2
def can (na m : Nat) (l : List Nat) : List Nat := mrg na (kyl m l) (ols na m)
def cnb (na m : Nat) (l : List Nat) : Bool := Nat.beq (enc (can na m l)) (enc l)
/-- the best of a list by worth v, the first of the best -/
def bstF (v : List Nat → Int32) : List (List Nat) → Int32 × List Nat → Int32 × List Nat
  | [], a => a
  | l :: r, a => bstF v r (if a.1 < v l then (v l, l) else a)
theorem bst_chk {na m : Nat} {v : List Nat → Int32} (hv : ∀ l l', l.length = na → l'.length = na → (∀ x, x ∈ l → x < 6) → (∀ x, x ∈ l' → x < 6) → enc (can na m l) = enc l' → v l = v l') :
    ∀ (L sl : List (List Nat)) (a : Int32 × List Nat), (∀ l, l ∈ L → l.length = na ∧ ∀ x, x ∈ l → x < 6) → (∀ l, l ∈ sl → (l.length = na ∧ ∀ x, x ∈ l → x < 6) ∧ v l ≤ a.1) → chk na m L (sl.map enc) = true → bstF v L a = bstF v (L.filter (cnb na m)) a
  | [], _, _, _, _, _ => rfl
  | l :: r, sl, a, hL, hs, hc => by
    have hl := hL l (List.mem_cons_self ..)
    have hr : ∀ z, z ∈ r → z.length = na ∧ ∀ x, x ∈ z → x < 6 := fun z hz => hL z (List.mem_cons_of_mem _ hz)
    have hc : (if cnb na m l = true then chk na m r (enc l :: sl.map enc) else (sl.map enc).any (fun x => Nat.beq x (enc (can na m l))) && chk na m r (sl.map enc)) = true := hc
    by_cases q : cnb na m l = true
    · rw [List.filter_cons_of_pos q]
      rw [if_pos q] at hc
      unfold bstF
      refine bst_chk hv r (l :: sl) _ hr (fun z hz => ?_) hc
      rcases List.mem_cons.mp hz with e | e
      · subst e
        refine ⟨hl, ?_⟩
        split
        · exact Int32.le_refl _
        · rename_i g; exact Int32.not_lt.mp g
      · refine ⟨(hs z e).1, ?_⟩
        have := (hs z e).2
        split
        · rename_i g; exact Int32.le_trans this (Int32.le_of_lt g)
        · exact this
    · rw [List.filter_cons_of_neg q]
      rw [if_neg q, Bool.and_eq_true] at hc
      obtain ⟨h1, h2⟩ := hc
      obtain ⟨x, hx, ex⟩ := List.any_eq_true.mp h1
      obtain ⟨z, hz, ez⟩ := List.mem_map.mp hx
      have e1 : enc (can na m l) = enc z := by
        have := Nat.eq_of_beq_eq_true ex
        rw [ez]
        exact this.symm
      have hz' := hs z hz
      have ev := hv l z hl.1 hz'.1.1 hl.2 hz'.1.2 e1
      have e : bstF v (l :: r) a = bstF v r (if a.1 < v l then (v l, l) else a) := rfl
      rw [e, if_neg (fun g => by rw [ev] at g; exact absurd hz'.2 (Int32.not_le.mpr g))]
      exact bst_chk hv r sl a hr hs h2
theorem ordF_bst {X : TR} {n : Nat} : ∀ (L : List (List Nat)) (a : Int32 × List Nat), ordF X n L a = bstF (ov X n) L a
  | [], _ => rfl
  | l :: r, a => by
    unfold ordF bstF
    exact ordF_bst r _
