-- ORDER: the next order, on a row
def fk (k : Nat) (M M' : gh_M) : Prop := ∀ a b, a ≠ k → M' a b = M a b
theorem fk.refl {k : Nat} {M : gh_M} : fk k M M := fun _ _ _ => rfl
theorem fk.tr {k : Nat} {A B C : gh_M} (h : fk k A B) (g : fk k B C) : fk k A C := fun a b q => (g a b q).trans (h a b q)
theorem fk.st {k : Nat} {A B : gh_M} (h : fk k A B) {t j : Nat} {v : Int32} : fk k A (gh_st B k t j v) := fun a b q => by rw [zb_kr _ _ _ _ _ q]; exact h a b q
def swp (g : Nat → Int32) (i j : Nat) : Nat → Int32 := fun t => if t = j then g i else if t = i then g j else g t
def rvs (i j : Nat) (g : Nat → Int32) : Nat → Int32 := fun t => if i ≤ t ∧ t ≤ j then g (i + j - t) else g t
theorem swp_st {M : gh_M} {k i j : Nat} : gh_st (gh_st M k 0 i (M k 0 j)) k 0 j (M k 0 i) k 0 = swp (M k 0) i j := funext fun t => by
  unfold swp
  by_cases q : t = j
  · subst q; rw [zb_s, if_pos rfl]
  · rw [zb_j _ _ _ _ q, if_neg q]
    by_cases p : t = i
    · subst p; rw [zb_s, if_pos rfl]
    · rw [zb_j _ _ _ _ p, if_neg p]
theorem rvs_triv {i j : Nat} {g : Nat → Int32} (h : j ≤ i) : rvs i j g = g := funext fun t => by
  unfold rvs
  split
  · rw [show i + j - t = t by omega]
  · rfl
theorem rvs_step {i j : Nat} {g : Nat → Int32} (h : i < j + 1) : rvs (i + 1) j (swp g i (j + 1)) = rvs i (j + 1) g := funext fun t => by
  unfold rvs swp
  by_cases q : i + 1 ≤ t ∧ t ≤ j
  · rw [if_pos q, if_neg (by omega), if_neg (by omega), if_pos (by omega), show i + 1 + j - t = i + (j + 1) - t by omega]
  · rw [if_neg q]
    by_cases p : t = j + 1
    · subst p
      rw [if_pos rfl, if_pos (by omega), show i + (j + 1) - (j + 1) = i by omega]
    · rw [if_neg p]
      by_cases p2 : t = i
      · subst p2
        rw [if_pos rfl, if_pos (by omega), show t + (j + 1) - t = j + 1 by omega]
      · rw [if_neg p2, if_neg (by omega)]
theorem getD_set {l : List Nat} {i t v : Nat} (hi : i < l.length) : (l.set i v).getD t 0 = if t = i then v else l.getD t 0 := by
  rw [List.getD_eq_getElem?_getD, List.getElem?_set, List.getD_eq_getElem?_getD]
  by_cases q : t = i
  · subst q; rw [if_pos rfl, if_pos hi, if_pos rfl]; rfl
  · rw [if_neg (fun e => q e.symm), if_neg q]
theorem nx_row {l l' : List Nat} {g : Nat → Int32} {k : Nat} (hg : ∀ t, t < l.length → g t = nI (l.getD t 0)) (hk : nxK l (l.length - 1) = some k) (h : nx l = some l') : ∀ t, t < l.length → rvs (k + 1) (l.length - 1) (swp g k (nxJ l (l.getD k 0) (l.length - 1))) t = nI (l'.getD t 0) := by
  have hk1 := nxK_lt _ hk
  have hj := nxJ_le (l := l) (v := l.getD k 0) (l.length - 1)
  unfold nx at h
  rw [hk] at h
  injection h with h
  subst h
  generalize nxJ l (l.getD k 0) (l.length - 1) = j at hj ⊢
  have hs : ∀ t, t < l.length → swp g k j t = nI ((nxS l k j).getD t 0) := fun t ht => by
    unfold swp nxS
    rw [getD_set (by rw [List.length_set]; omega), getD_set (by omega)]
    by_cases q : t = j
    · rw [if_pos q, if_pos q]; exact hg k (by omega)
    · rw [if_neg q, if_neg q]
      by_cases p : t = k
      · rw [if_pos p, if_pos p]; exact hg j (by omega)
      · rw [if_neg p, if_neg p]; exact hg t ht
  have hl : (nxS l k j).length = l.length := by unfold nxS; rw [List.length_set, List.length_set]
  intro t ht
  unfold rvs
  generalize nxS l k j = s at hs hl ⊢
  have hl1 : (s.take (k + 1)).length = k + 1 := by rw [List.length_take]; omega
  rw [List.getD_eq_getElem?_getD, List.getElem?_append, hl1]
  by_cases q : t < k + 1
  · rw [if_neg (by omega), if_pos q, List.getElem?_take, if_pos q, ← List.getD_eq_getElem?_getD]
    exact hs t ht
  · rw [if_pos (by omega), if_neg q, List.getElem?_reverse (by rw [List.length_drop]; omega), List.getElem?_drop, List.length_drop, ← List.getD_eq_getElem?_getD, hs _ (by omega)]
    rw [show k + 1 + (l.length - 1) - t = k + 1 + (s.length - (k + 1) - 1 - (t - (k + 1))) by omega]

theorem cn_rev {Q : Int32 → gh_M → Prop} : ∀ (r i j : Nat) (M : gh_M), j ≤ i + r → i ≤ 6 → j < 6 → (∀ M', fk 27 M M' → M' 27 0 = rvs i j (M 27 0) → Q (nI 1) M') → wl_X2_nextOrder_83 Q (r + 1) (nI i) (nI j) M
  | 0, i, j, M, h, hi, hj, hQ => by
    unfold wl_X2_nextOrder_83
    exact ⟨fun _ => hQ M fk.refl (rvs_triv (by omega)).symm, fun g => absurd (nI_le (by omega) (by omega)) g⟩
  | r + 1, i, 0, M, h, hi, hj, hQ => by
    unfold wl_X2_nextOrder_83
    exact ⟨fun _ => hQ M fk.refl (rvs_triv (by omega)).symm, fun g => absurd (nI_le (by omega) (by omega)) g⟩
  | r + 1, i, j + 1, M, h, hi, hj, hQ => by
    unfold wl_X2_nextOrder_83
    refine ⟨fun g => hQ M fk.refl (rvs_triv ((nI_leI (by omega) (by omega)).mp g)).symm, fun g => ?_⟩
    have hlt : i < j + 1 := Nat.lt_of_not_le (fun e => g (nI_le e (by omega)))
    simp (disch := omega) only [wp_X2_swapTried, nI_clamp, zb_in, true_and, forall_eq, nI_add, nI_dec]
    refine cn_rev r (i + 1) j _ (by omega) (by omega) (by omega) (fun M' f e => hQ M' (fk.tr fk.refl.st.st f) ?_)
    rw [e, swp_st, rvs_step hlt]
theorem cn_nJ {l : List Nat} {k n : Nat} {Q : Int32 → gh_M → Prop} {M : gh_M} (hn : n ≤ 6) (hl : l.length = n) (h6 : ∀ x, x ∈ l → x < 6) (hM : ∀ t, t < n → M 27 0 t = nI (l.getD t 0)) (hk1 : k + 1 < n) (hk : ¬ l.getD (k + 1) 0 < l.getD k 0) :
    ∀ j, k < j → j < n → (∀ M', fk 27 M M' → M' 27 0 = rvs (k + 1) (n - 1) (swp (M 27 0) k (nxJ l (l.getD k 0) j)) → Q (nI 1) M') → wl_X2_nextOrder_41 Q j (nI n) (nI k) (nI j) M
  | 0, h, _, _ => absurd h (Nat.not_lt_zero _)
  | j + 1, h, hj, hQ => by
    have e : nxJ l (l.getD k 0) (j + 1) = if l.getD (j + 1) 0 < l.getD k 0 then nxJ l (l.getD k 0) j else j + 1 := rfl
    rw [e] at hQ
    have u1 := h6 _ (getD_mem (l := l) (j := j + 1) (by omega))
    have u2 := h6 _ (getD_mem (l := l) (j := k) (by omega))
    unfold wl_X2_nextOrder_41
    simp (disch := omega) only [wp_X2_swapTried, nI_clamp, zb_in, true_and, forall_eq, nI_add, nI_dec, pk_sub]
    have stp : nI (l.getD k 0) ≤ nI (l.getD (j + 1) 0) → ∃ q, wl_X2_nextOrder_83 Q q (nI (k + 1)) (nI (n - 1)) (gh_st (gh_st M 27 0 k (M 27 0 (j + 1))) 27 0 (j + 1) (M 27 0 k)) := fun g => by
      have g := (nI_leI (by omega) (by omega)).mp g
      rw [if_neg (Nat.not_lt.mpr g)] at hQ
      refine ⟨n + 1, cn_rev n (k + 1) (n - 1) _ (by omega) (by omega) (by omega) (fun M' f e => hQ M' (fk.tr fk.refl.st.st f) ?_)⟩
      rw [e, swp_st]
    have con : ¬ nI (l.getD k 0) ≤ nI (l.getD (j + 1) 0) → wl_X2_nextOrder_41 Q j (nI n) (nI k) (nI j) M := fun g => by
      have g : l.getD (j + 1) 0 < l.getD k 0 := Nat.lt_of_not_le (fun e => g (nI_le e (by omega)))
      rw [if_pos g] at hQ
      have hne : j ≠ k := fun e => by subst e; exact hk g
      exact cn_nJ hn hl h6 hM hk1 hk j (by omega) (by omega) hQ
    rw [← hM k (by omega), ← hM (j + 1) (by omega)] at stp con
    exact ⟨fun g => absurd g (nI_ge (by omega) (by omega)), fun _ => ⟨stp, con⟩⟩
theorem cn_nK {l : List Nat} {n : Nat} {Q : Int32 → gh_M → Prop} {M : gh_M} (hn : n ≤ 6) (hl : l.length = n) (h6 : ∀ x, x ∈ l → x < 6) (hM : ∀ t, t < n → M 27 0 t = nI (l.getD t 0)) :
    ∀ i, i < n → (nxK l i = none → Q (nI 0) M) → (∀ k, nxK l i = some k → ∀ M', fk 27 M M' → M' 27 0 = rvs (k + 1) (n - 1) (swp (M 27 0) k (nxJ l (l.getD k 0) (n - 1))) → Q (nI 1) M') → wl_X2_nextOrder_4 Q (i + 1) (nI n) (nI i + (-1 : Int32)) M
  | 0, hi, h0, _ => by
    unfold wl_X2_nextOrder_4
    rw [nI_m1v]
    exact ⟨fun _ => ⟨fun g => absurd g (by decide), fun _ => h0 rfl⟩, fun g => absurd (by decide) g⟩
  | i + 1, hi, h0, h1 => by
    have e : nxK l (i + 1) = if l.getD (i + 1) 0 < l.getD i 0 then nxK l i else some i := rfl
    rw [e] at h0 h1
    have u1 := h6 _ (getD_mem (l := l) (j := i + 1) (by omega))
    have u2 := h6 _ (getD_mem (l := l) (j := i) (by omega))
    unfold wl_X2_nextOrder_4
    rw [nI_dec]
    refine ⟨fun g => absurd g (nI_pos (by omega)), fun _ => ?_⟩
    simp (disch := omega) only [nI_clamp, zb_in, true_and, forall_eq, nI_add, pk_sub, hM]
    refine ⟨fun g => ⟨fun _ => ?_, fun z => absurd (nI_pos' (by omega)) z⟩, fun g => ?_⟩
    · have g := (nI_leI (by omega) (by omega)).mp g
      rw [if_neg (Nat.not_lt.mpr g)] at h1
      exact ⟨n - 1, cn_nJ hn hl h6 hM hi (Nat.not_lt.mpr g) (n - 1) (by omega) (by omega) (h1 i rfl)⟩
    · have g : l.getD (i + 1) 0 < l.getD i 0 := Nat.lt_of_not_le (fun e => g (nI_le e (by omega)))
      rw [if_pos g] at h0 h1
      exact cn_nK hn hl h6 hM i (by omega) h0 h1
theorem cn_next {l : List Nat} {n : Nat} {Q : Int32 → gh_M → Prop} {M : gh_M} (hn : n ≤ 6) (hl : l.length = n) (h6 : ∀ x, x ∈ l → x < 6) (hM : ∀ t, t < n → M 27 0 t = nI (l.getD t 0)) (h0 : nx l = none → Q (nI 0) M) (h1 : ∀ l' M', nx l = some l' → fk 27 M M' → (∀ t, t < n → M' 27 0 t = nI (l'.getD t 0)) → (∀ t, n ≤ t → M' 27 0 t = M 27 0 t) → Q (nI 1) M') : wp_X2_nextOrder (nI n) M Q := by
  unfold wp_X2_nextOrder
  rintro _ rfl
  by_cases q : n = 0
  · subst q
    have : l = [] := List.eq_nil_of_length_eq_zero hl
    subst this
    refine ⟨1, ?_⟩
    unfold wl_X2_nextOrder_4
    rw [show nI 0 - nI 2 = (-2 : Int32) by decide]
    exact ⟨fun _ => ⟨fun g => absurd g (by decide), fun _ => h0 rfl⟩, fun g => absurd (by decide) g⟩
  · obtain ⟨r, rfl⟩ : ∃ r, n = r + 1 := ⟨n - 1, by omega⟩
    have e2 : nI (r + 1) - nI 2 = nI r + (-1 : Int32) := by
      rw [← nI_add, show nI 1 = (1 : Int32) from rfl, show nI 2 = (2 : Int32) from rfl, Int32.sub_eq_add_neg, Int32.add_assoc]
      rfl
    rw [e2]
    refine ⟨r + 1, cn_nK hn hl h6 hM r (by omega) (fun g => h0 ?_) (fun k g M' f e => ?_)⟩
    · unfold nx
      rw [hl, Nat.add_sub_cancel, g]
    · have hs : ∃ l', nx l = some l' := by
        unfold nx
        rw [hl, Nat.add_sub_cancel, g]
        exact ⟨_, rfl⟩
      obtain ⟨l', hl'⟩ := hs
      have hr := nx_row (g := M 27 0) (by rw [hl]; exact hM) (by rw [hl, Nat.add_sub_cancel]; exact g) hl'
      rw [hl] at hr
      have kb := nxK_lt _ g
      have jb := nxJ_le (l := l) (v := l.getD k 0) (r + 1 - 1)
      refine h1 l' M' hl' f (fun t ht => by rw [e]; exact hr t ht) (fun t ht => ?_)
      rw [e]
      unfold rvs swp
      rw [if_neg (by omega), if_neg (by omega), if_neg (by omega)]

theorem rn_rev {Q : Int32 → gh_M → Prop} : ∀ (r i j : Nat) (M : gh_M), j ≤ i + r → i ≤ 6 → j < 6 → (∀ M', fk 42 M M' → M' 42 0 = rvs i j (M 42 0) → Q (nI 1) M') → wl_X7_nextOrder_100 Q (r + 1) (nI i) (nI j) M
  | 0, i, j, M, h, hi, hj, hQ => by
    unfold wl_X7_nextOrder_100
    exact ⟨fun _ => hQ M fk.refl (rvs_triv (by omega)).symm, fun g => absurd (nI_le (by omega) (by omega)) g⟩
  | r + 1, i, 0, M, h, hi, hj, hQ => by
    unfold wl_X7_nextOrder_100
    exact ⟨fun _ => hQ M fk.refl (rvs_triv (by omega)).symm, fun g => absurd (nI_le (by omega) (by omega)) g⟩
  | r + 1, i, j + 1, M, h, hi, hj, hQ => by
    unfold wl_X7_nextOrder_100
    refine ⟨fun g => hQ M fk.refl (rvs_triv ((nI_leI (by omega) (by omega)).mp g)).symm, fun g => ?_⟩
    have hlt : i < j + 1 := Nat.lt_of_not_le (fun e => g (nI_le e (by omega)))
    simp (disch := omega) only [nI_clamp, zb_in, true_and, forall_eq, nI_add, nI_dec]
    refine rn_rev r (i + 1) j _ (by omega) (by omega) (by omega) (fun M' f e => hQ M' (fk.tr fk.refl.st.st f) ?_)
    rw [e, swp_st, rvs_step hlt]
theorem rn_nJ {l : List Nat} {k n : Nat} {Q : Int32 → gh_M → Prop} {M : gh_M} (hn : n ≤ 6) (hl : l.length = n) (h6 : ∀ x, x ∈ l → x < 6) (hM : ∀ t, t < n → M 42 0 t = nI (l.getD t 0)) (hk1 : k + 1 < n) (hk : ¬ l.getD (k + 1) 0 < l.getD k 0) :
    ∀ j, k < j → j < n → (∀ M', fk 42 M M' → M' 42 0 = rvs (k + 1) (n - 1) (swp (M 42 0) k (nxJ l (l.getD k 0) j)) → Q (nI 1) M') → wl_X7_nextOrder_41 Q j (nI n) (nI k) (nI j) M
  | 0, h, _, _ => absurd h (Nat.not_lt_zero _)
  | j + 1, h, hj, hQ => by
    have e : nxJ l (l.getD k 0) (j + 1) = if l.getD (j + 1) 0 < l.getD k 0 then nxJ l (l.getD k 0) j else j + 1 := rfl
    rw [e] at hQ
    have u1 := h6 _ (getD_mem (l := l) (j := j + 1) (by omega))
    have u2 := h6 _ (getD_mem (l := l) (j := k) (by omega))
    unfold wl_X7_nextOrder_41
    simp (disch := omega) only [nI_clamp, zb_in, true_and, forall_eq, nI_add, nI_dec, pk_sub]
    have stp : nI (l.getD k 0) ≤ nI (l.getD (j + 1) 0) → ∃ q, wl_X7_nextOrder_100 Q q (nI (k + 1)) (nI (n - 1)) (gh_st (gh_st M 42 0 k (M 42 0 (j + 1))) 42 0 (j + 1) (M 42 0 k)) := fun g => by
      have g := (nI_leI (by omega) (by omega)).mp g
      rw [if_neg (Nat.not_lt.mpr g)] at hQ
      refine ⟨n + 1, rn_rev n (k + 1) (n - 1) _ (by omega) (by omega) (by omega) (fun M' f e => hQ M' (fk.tr fk.refl.st.st f) ?_)⟩
      rw [e, swp_st]
    have con : ¬ nI (l.getD k 0) ≤ nI (l.getD (j + 1) 0) → wl_X7_nextOrder_41 Q j (nI n) (nI k) (nI j) M := fun g => by
      have g : l.getD (j + 1) 0 < l.getD k 0 := Nat.lt_of_not_le (fun e => g (nI_le e (by omega)))
      rw [if_pos g] at hQ
      have hne : j ≠ k := fun e => by subst e; exact hk g
      exact rn_nJ hn hl h6 hM hk1 hk j (by omega) (by omega) hQ
    rw [← hM k (by omega), ← hM (j + 1) (by omega)] at stp con
    exact ⟨stp, con⟩
theorem rn_nK {l : List Nat} {n : Nat} {Q : Int32 → gh_M → Prop} {M : gh_M} (hn : n ≤ 6) (hl : l.length = n) (h6 : ∀ x, x ∈ l → x < 6) (hM : ∀ t, t < n → M 42 0 t = nI (l.getD t 0)) :
    ∀ i, i < n → (nxK l i = none → Q (nI 0) M) → (∀ k, nxK l i = some k → ∀ M', fk 42 M M' → M' 42 0 = rvs (k + 1) (n - 1) (swp (M 42 0) k (nxJ l (l.getD k 0) (n - 1))) → Q (nI 1) M') → wl_X7_nextOrder_4 Q (i + 1) (nI n) (nI i + (-1 : Int32)) M
  | 0, hi, h0, _ => by
    unfold wl_X7_nextOrder_4
    rw [nI_m1v]
    exact ⟨fun _ => ⟨fun g => absurd g (by decide), fun _ => h0 rfl⟩, fun g => absurd (by decide) g⟩
  | i + 1, hi, h0, h1 => by
    have e : nxK l (i + 1) = if l.getD (i + 1) 0 < l.getD i 0 then nxK l i else some i := rfl
    rw [e] at h0 h1
    have u1 := h6 _ (getD_mem (l := l) (j := i + 1) (by omega))
    have u2 := h6 _ (getD_mem (l := l) (j := i) (by omega))
    unfold wl_X7_nextOrder_4
    rw [nI_dec]
    refine ⟨fun g => absurd g (nI_pos (by omega)), fun _ => ?_⟩
    simp (disch := omega) only [nI_clamp, zb_in, true_and, forall_eq, nI_add, pk_sub, hM]
    refine ⟨fun g => ⟨fun _ => ?_, fun z => absurd (nI_pos' (by omega)) z⟩, fun g => ?_⟩
    · have g := (nI_leI (by omega) (by omega)).mp g
      rw [if_neg (Nat.not_lt.mpr g)] at h1
      exact ⟨n - 1, rn_nJ hn hl h6 hM hi (Nat.not_lt.mpr g) (n - 1) (by omega) (by omega) (h1 i rfl)⟩
    · have g : l.getD (i + 1) 0 < l.getD i 0 := Nat.lt_of_not_le (fun e => g (nI_le e (by omega)))
      rw [if_pos g] at h0 h1
      exact rn_nK hn hl h6 hM i (by omega) h0 h1
theorem rn_next {l : List Nat} {n : Nat} {Q : Int32 → gh_M → Prop} {M : gh_M} (hn : n ≤ 6) (hl : l.length = n) (h6 : ∀ x, x ∈ l → x < 6) (hM : ∀ t, t < n → M 42 0 t = nI (l.getD t 0)) (h0 : nx l = none → Q (nI 0) M) (h1 : ∀ l' M', nx l = some l' → fk 42 M M' → (∀ t, t < n → M' 42 0 t = nI (l'.getD t 0)) → (∀ t, n ≤ t → M' 42 0 t = M 42 0 t) → Q (nI 1) M') : wp_X7_nextOrder (nI n) M Q := by
  unfold wp_X7_nextOrder
  rintro _ rfl
  by_cases q : n = 0
  · subst q
    have : l = [] := List.eq_nil_of_length_eq_zero hl
    subst this
    refine ⟨1, ?_⟩
    unfold wl_X7_nextOrder_4
    rw [show nI 0 - nI 2 = (-2 : Int32) by decide]
    exact ⟨fun _ => ⟨fun g => absurd g (by decide), fun _ => h0 rfl⟩, fun g => absurd (by decide) g⟩
  · obtain ⟨r, rfl⟩ : ∃ r, n = r + 1 := ⟨n - 1, by omega⟩
    have e2 : nI (r + 1) - nI 2 = nI r + (-1 : Int32) := by
      rw [← nI_add, show nI 1 = (1 : Int32) from rfl, show nI 2 = (2 : Int32) from rfl, Int32.sub_eq_add_neg, Int32.add_assoc]
      rfl
    rw [e2]
    refine ⟨r + 1, rn_nK hn hl h6 hM r (by omega) (fun g => h0 ?_) (fun k g M' f e => ?_)⟩
    · unfold nx
      rw [hl, Nat.add_sub_cancel, g]
    · have hs : ∃ l', nx l = some l' := by
        unfold nx
        rw [hl, Nat.add_sub_cancel, g]
        exact ⟨_, rfl⟩
      obtain ⟨l', hl'⟩ := hs
      have hr := nx_row (g := M 42 0) (by rw [hl]; exact hM) (by rw [hl, Nat.add_sub_cancel]; exact g) hl'
      rw [hl] at hr
      have kb := nxK_lt _ g
      have jb := nxJ_le (l := l) (v := l.getD k 0) (r + 1 - 1)
      refine h1 l' M' hl' f (fun t ht => by rw [e]; exact hr t ht) (fun t ht => ?_)
      rw [e]
      unfold rvs swp
      rw [if_neg (by omega), if_neg (by omega), if_neg (by omega)]
