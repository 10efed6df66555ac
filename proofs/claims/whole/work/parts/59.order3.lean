-- ORDER: the best of all is the best of the firsts
def enF (a : Nat) (l : List Nat) : Nat := l.foldl (fun a x => 7 * a + x + 1) a
theorem enF_inj : ∀ (l l' : List Nat) (a a' : Nat), l.length = l'.length → (∀ x, x ∈ l → x < 6) → (∀ x, x ∈ l' → x < 6) → enF a l = enF a' l' → a = a' ∧ l = l'
  | [], [], a, a', _, _, _, h => ⟨h, rfl⟩
  | [], y :: l', a, a', hl, _, _, _ => by cases hl
  | x :: l, [], a, a', hl, _, _, _ => by cases hl
  | x :: l, y :: l', a, a', hl, h1, h2, h => by
    have hl' : l.length = l'.length := by simpa using hl
    have hx := h1 x (List.mem_cons_self ..)
    have hy := h2 y (List.mem_cons_self ..)
    obtain ⟨e, el⟩ := enF_inj l l' (7 * a + x + 1) (7 * a' + y + 1) hl' (fun z hz => h1 z (List.mem_cons_of_mem _ hz)) (fun z hz => h2 z (List.mem_cons_of_mem _ hz)) h
    have : x = y := by omega
    subst this
    exact ⟨by omega, by rw [el]⟩
theorem enc_inj {l l' : List Nat} (hl : l.length = l'.length) (h1 : ∀ x, x ∈ l → x < 6) (h2 : ∀ x, x ∈ l' → x < 6) (h : enc l = enc l') : l = l' := (enF_inj l l' 0 0 hl h1 h2 h).2
def can (na m : Nat) (l : List Nat) : List Nat := mrg na (kyl m l) (ols na m)
def cnb (na m : Nat) (l : List Nat) : Bool := Nat.beq (enc (can na m l)) (enc l)
/-- the best of a list by worth v, the first of the best -/
def bstF (v : List Nat → Int32) : List (List Nat) → Int32 × List Nat → Int32 × List Nat
  | [], a => a
  | l :: r, a => bstF v r (if a.1 < v l then (v l, l) else a)
theorem bst_chk {na m : Nat} {G : List Nat → Prop} {v : List Nat → Int32} (hv : ∀ l l', G l → G l' → enc (can na m l) = enc l' → v l = v l') :
    ∀ (L sl : List (List Nat)) (a : Int32 × List Nat), (∀ l, l ∈ L → G l) → (∀ l, l ∈ sl → G l ∧ v l ≤ a.1) → chk na m L (sl.map enc) = true → bstF v L a = bstF v (L.filter (cnb na m)) a
  | [], _, _, _, _, _ => rfl
  | l :: r, sl, a, hL, hs, hc => by
    have hl := hL l (List.mem_cons_self ..)
    have hr : ∀ z, z ∈ r → G z := fun z hz => hL z (List.mem_cons_of_mem _ hz)
    have hc : (if cnb na m l = true then chk na m r (enc l :: sl.map enc) else (sl.map enc).any (fun x => Nat.beq x (enc (can na m l))) && chk na m r (sl.map enc)) = true := hc
    by_cases q : cnb na m l = true
    · rw [List.filter_cons_of_pos q]
      rw [if_pos q] at hc
      unfold bstF
      refine bst_chk hv r (l :: sl) _ hr (fun z hz => ?_) hc
      rcases List.mem_cons.mp hz with e | e
      · subst e
        refine ⟨hl, ?_⟩
        split
        · exact Int32.le_refl _
        · rename_i g; exact Int32.not_lt.mp g
      · refine ⟨(hs z e).1, ?_⟩
        have := (hs z e).2
        split
        · rename_i g; exact Int32.le_trans this (Int32.le_of_lt g)
        · exact this
    · rw [List.filter_cons_of_neg q]
      rw [if_neg q, Bool.and_eq_true] at hc
      obtain ⟨h1, h2⟩ := hc
      obtain ⟨x, hx, ex⟩ := List.any_eq_true.mp h1
      obtain ⟨z, hz, ez⟩ := List.mem_map.mp hx
      have e1 : enc (can na m l) = enc z := by
        have := Nat.eq_of_beq_eq_true ex
        rw [ez]
        exact this.symm
      have hz' := hs z hz
      have ev := hv l z hl hz'.1 e1
      have e : bstF v (l :: r) a = bstF v r (if a.1 < v l then (v l, l) else a) := rfl
      rw [e, if_neg (fun g => by rw [ev] at g; exact absurd hz'.2 (Int32.not_le.mpr g))]
      exact bst_chk hv r sl a hr hs h2
theorem ordF_bst {X : TR} {n : Nat} : ∀ (L : List (List Nat)) (a : Int32 × List Nat), ordF X n L a = bstF (ov X n) L a
  | [], _ => rfl
  | l :: r, a => by
    unfold ordF bstF
    exact ordF_bst r _
theorem mrg_len : ∀ (n : Nat) (k o : List Nat), k.length + o.length = n → (mrg n k o).length = n
  | 0, _, _, _ => rfl
  | n + 1, [], [], h => by simp at h
  | n + 1, [], o :: os, h => by
    unfold mrg
    have := mrg_len n [] os (by simp at h ⊢; omega)
    simp [this]
  | n + 1, w :: ws, [], h => by
    unfold mrg
    have := mrg_len n ws [] (by simp at h ⊢; omega)
    simp [this]
  | n + 1, w :: ws, o :: os, h => by
    unfold mrg
    split
    · have := mrg_len n ws (o :: os) (by simp at h ⊢; omega)
      simp [this]
    · have := mrg_len n (w :: ws) os (by simp at h ⊢; omega)
      simp [this]
theorem mrg_mem : ∀ (n : Nat) (k o : List Nat) (x : Nat), x ∈ mrg n k o → x ∈ k ∨ x ∈ o
  | 0, _, _, x, h => by cases h
  | n + 1, [], [], x, h => by cases h
  | n + 1, [], o :: os, x, h => by
    unfold mrg at h
    rcases List.mem_cons.mp h with e | e
    · exact Or.inr (by rw [e]; exact List.mem_cons_self ..)
    · rcases mrg_mem n [] os x e with q | q
      · cases q
      · exact Or.inr (List.mem_cons_of_mem _ q)
  | n + 1, w :: ws, [], x, h => by
    unfold mrg at h
    rcases List.mem_cons.mp h with e | e
    · exact Or.inl (by rw [e]; exact List.mem_cons_self ..)
    · rcases mrg_mem n ws [] x e with q | q
      · exact Or.inl (List.mem_cons_of_mem _ q)
      · cases q
  | n + 1, w :: ws, o :: os, x, h => by
    unfold mrg at h
    split at h
    · rcases List.mem_cons.mp h with e | e
      · exact Or.inl (by rw [e]; exact List.mem_cons_self ..)
      · rcases mrg_mem n ws (o :: os) x e with q | q
        · exact Or.inl (List.mem_cons_of_mem _ q)
        · exact Or.inr q
    · rcases List.mem_cons.mp h with e | e
      · exact Or.inr (by rw [e]; exact List.mem_cons_self ..)
      · rcases mrg_mem n (w :: ws) os x e with q | q
        · exact Or.inl q
        · exact Or.inr (List.mem_cons_of_mem _ q)
theorem mrg_flt {P : Nat → Bool} : ∀ (n : Nat) (k o : List Nat), k.length + o.length = n → (∀ x, x ∈ k → P x = true) → (∀ x, x ∈ o → ¬ P x = true) → (mrg n k o).filter P = k
  | 0, k, o, h, _, _ => by
    have : k = [] := List.eq_nil_of_length_eq_zero (by omega)
    subst this; rfl
  | n + 1, [], [], h, _, _ => by simp at h
  | n + 1, [], o :: os, h, h1, h2 => by
    unfold mrg
    rw [List.filter_cons_of_neg (h2 o (List.mem_cons_self ..))]
    exact mrg_flt n [] os (by simp at h ⊢; omega) h1 (fun x hx => h2 x (List.mem_cons_of_mem _ hx))
  | n + 1, w :: ws, [], h, h1, h2 => by
    unfold mrg
    rw [List.filter_cons_of_pos (h1 w (List.mem_cons_self ..)), mrg_flt n ws [] (by simp at h ⊢; omega) (fun x hx => h1 x (List.mem_cons_of_mem _ hx)) h2]
  | n + 1, w :: ws, o :: os, h, h1, h2 => by
    unfold mrg
    split
    · rw [List.filter_cons_of_pos (h1 w (List.mem_cons_self ..)), mrg_flt n ws (o :: os) (by simp at h ⊢; omega) (fun x hx => h1 x (List.mem_cons_of_mem _ hx)) h2]
    · rw [List.filter_cons_of_neg (h2 o (List.mem_cons_self ..))]
      exact mrg_flt n (w :: ws) os (by simp at h ⊢; omega) h1 (fun x hx => h2 x (List.mem_cons_of_mem _ hx))
