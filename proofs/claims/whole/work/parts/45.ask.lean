-- ASK, SETS, FEED
def w21 (M0 : gh_M) (u : Nat) : Int32 := nI u + M0 11 0 u
theorem g10 {n d u : Nat} {M0 M : gh_M} {l : List Int32} {Q : Int32 → gh_M → Prop} (h : cA M0 M l) (hl : l.length + 1 ≤ 16) (hd : d + 0 ≤ 16) (hu : u < 5) (hQ : ∀ M', cA M0 M' (l ++ [nI 10]) → Q (M0 9 0 u) M') : wp_X1_give (n + 1) 0 (nI u) (nI 10) (nI d) M Q := by
  unfold wp_X1_give
  refine ⟨fun _ => c_beg h (by omega) (fun M3 h3 => ⟨vp_in_nI hu (by omega), ?_⟩), fun z => absurd (nI_le (show d ≤ 16 by omega) (by omega)) z⟩
  rintro y rfl z rfl
  rw [nI_clamp (n := u) (by omega)]
  refine ⟨fun _ => ?_, fun z => absurd rfl z⟩
  refine ⟨vp_in_nI hu (by omega), ?_⟩
  rw [h3.2.2.2 9 0 (by omega) (by omega)]
  exact hQ M3 h3
theorem g20 {n d u : Nat} {M0 M : gh_M} {l : List Int32} {Q : Int32 → gh_M → Prop} (h : cA M0 M l) (hl : l.length + 1 ≤ 16) (hd : d + 0 ≤ 16) (hu : u < 5) (hQ : ∀ M', cA M0 M' (l ++ [nI 20]) → Q (nI u) M') : wp_X1_give (n + 1) 0 (nI u) (nI 20) (nI d) M Q := by
  unfold wp_X1_give
  refine ⟨fun _ => c_beg h (by omega) (fun M3 h3 => ⟨vp_in_nI hu (by omega), ?_⟩), fun z => absurd (nI_le (show d ≤ 16 by omega) (by omega)) z⟩
  rintro y rfl z rfl
  rw [nI_clamp (n := u) (by omega)]
  refine ⟨fun z => absurd z (by decide), fun _ => ⟨fun z => absurd z (by decide), fun _ => ⟨fun z => absurd z (by decide), fun _ => ⟨fun z => absurd z (by decide), fun _ => ⟨fun z => absurd z (by decide), fun _ => ⟨fun z => absurd z (by decide), fun _ => ⟨fun z => absurd z (by decide), fun _ => ⟨fun z => absurd z (by decide), fun _ => ⟨fun z => absurd z (by decide), fun _ => ⟨fun z => absurd z (by decide), fun _ => ⟨fun _ => ?_, fun z => absurd rfl z⟩⟩⟩⟩⟩⟩⟩⟩⟩⟩⟩
  exact hQ M3 h3
theorem g21 {n d u : Nat} {M0 M : gh_M} {l : List Int32} {Q : Int32 → gh_M → Prop} (h : cA M0 M l) (hl : l.length + 2 ≤ 16) (hd : d + 1 ≤ 16) (hu : u < 5) (hQ : ∀ M', cA M0 M' (l ++ [nI 21] ++ [nI 20]) → Q (w21 M0 u) M') : wp_X1_give (n + 2) 0 (nI u) (nI 21) (nI d) M Q := by
  unfold wp_X1_give
  refine ⟨fun _ => c_beg h (by omega) (fun M3 h3 => ⟨vp_in_nI hu (by omega), ?_⟩), fun z => absurd (nI_le (show d ≤ 16 by omega) (by omega)) z⟩
  rintro y rfl z rfl
  rw [nI_clamp (n := u) (by omega)]
  refine ⟨fun z => absurd z (by decide), fun _ => ⟨fun z => absurd z (by decide), fun _ => ⟨fun z => absurd z (by decide), fun _ => ⟨fun z => absurd z (by decide), fun _ => ⟨fun z => absurd z (by decide), fun _ => ⟨fun z => absurd z (by decide), fun _ => ⟨fun z => absurd z (by decide), fun _ => ⟨fun z => absurd z (by decide), fun _ => ⟨fun z => absurd z (by decide), fun _ => ⟨fun z => absurd z (by decide), fun _ => ⟨fun z => absurd z (by decide), fun _ => ⟨fun _ => ?_, fun z => absurd rfl z⟩⟩⟩⟩⟩⟩⟩⟩⟩⟩⟩⟩
  rw [nI_add]
  refine g20 h3 (by simp only [List.length_append, List.length_cons, List.length_nil]; omega) (by omega) hu (fun M4 h4 => ⟨vp_in_nI hu (by omega), ?_⟩)
  rw [h4.2.2.2 11 0 (by omega) (by omega)]
  exact hQ M4 h4
theorem g24 {n d u : Nat} {M0 M : gh_M} {l : List Int32} {Q : Int32 → gh_M → Prop} (h : cA M0 M l) (hl : l.length + 3 ≤ 16) (hd : d + 2 ≤ 16) (hu : u < 5) (hQ : ∀ M', cA M0 M' (l ++ [nI 24] ++ [nI 21] ++ [nI 20]) → Q (nI 2 * w21 M0 u) M') : wp_X1_give (n + 3) 0 (nI u) (nI 24) (nI d) M Q := by
  unfold wp_X1_give
  refine ⟨fun _ => c_beg h (by omega) (fun M3 h3 => ⟨vp_in_nI hu (by omega), ?_⟩), fun z => absurd (nI_le (show d ≤ 16 by omega) (by omega)) z⟩
  rintro y rfl z rfl
  rw [nI_clamp (n := u) (by omega)]
  refine ⟨fun z => absurd z (by decide), fun _ => ⟨fun z => absurd z (by decide), fun _ => ⟨fun z => absurd z (by decide), fun _ => ⟨fun z => absurd z (by decide), fun _ => ⟨fun z => absurd z (by decide), fun _ => ⟨fun z => absurd z (by decide), fun _ => ⟨fun z => absurd z (by decide), fun _ => ⟨fun z => absurd z (by decide), fun _ => ⟨fun z => absurd z (by decide), fun _ => ⟨fun z => absurd z (by decide), fun _ => ⟨fun z => absurd z (by decide), fun _ => ⟨fun z => absurd z (by decide), fun _ => ⟨fun z => absurd z (by decide), fun _ => ⟨fun z => absurd z (by decide), fun _ => ⟨fun _ => ?_, fun z => absurd rfl z⟩⟩⟩⟩⟩⟩⟩⟩⟩⟩⟩⟩⟩⟩⟩
  rw [nI_add]
  exact g21 h3 (by simp only [List.length_append, List.length_cons, List.length_nil]; omega) (by omega) hu (fun M4 h4 => hQ M4 h4)
theorem g22 {n d u : Nat} {M0 M : gh_M} {l : List Int32} {Q : Int32 → gh_M → Prop} (h : cA M0 M l) (hl : l.length + 3 ≤ 16) (hd : d + 2 ≤ 16) (hu : u < 5) (hQ : ∀ M', cA M0 M' (l ++ [nI 22] ++ [nI 21] ++ [nI 20]) → Q (w21 M0 u - nI 1000) M') : wp_X1_give (n + 3) 0 (nI u) (nI 22) (nI d) M Q := by
  unfold wp_X1_give
  refine ⟨fun _ => c_beg h (by omega) (fun M3 h3 => ⟨vp_in_nI hu (by omega), ?_⟩), fun z => absurd (nI_le (show d ≤ 16 by omega) (by omega)) z⟩
  rintro y rfl z rfl
  rw [nI_clamp (n := u) (by omega)]
  refine ⟨fun z => absurd z (by decide), fun _ => ⟨fun z => absurd z (by decide), fun _ => ⟨fun z => absurd z (by decide), fun _ => ⟨fun z => absurd z (by decide), fun _ => ⟨fun z => absurd z (by decide), fun _ => ⟨fun z => absurd z (by decide), fun _ => ⟨fun z => absurd z (by decide), fun _ => ⟨fun z => absurd z (by decide), fun _ => ⟨fun z => absurd z (by decide), fun _ => ⟨fun z => absurd z (by decide), fun _ => ⟨fun z => absurd z (by decide), fun _ => ⟨fun z => absurd z (by decide), fun _ => ⟨fun _ => ?_, fun z => absurd rfl z⟩⟩⟩⟩⟩⟩⟩⟩⟩⟩⟩⟩⟩
  rw [nI_add]
  exact g21 h3 (by simp only [List.length_append, List.length_cons, List.length_nil]; omega) (by omega) hu (fun M4 h4 => hQ M4 h4)
theorem g13 {n d u : Nat} {M0 M : gh_M} {l : List Int32} {Q : Int32 → gh_M → Prop} (h : cA M0 M l) (hl : l.length + 2 ≤ 16) (hd : d + 1 ≤ 16) (hu : u < 5) (hQ : ∀ M', cA M0 M' (l ++ [nI 13] ++ [nI 10]) → Q (M0 9 0 u - nI 100) M') : wp_X1_give (n + 2) 0 (nI u) (nI 13) (nI d) M Q := by
  unfold wp_X1_give
  refine ⟨fun _ => c_beg h (by omega) (fun M3 h3 => ⟨vp_in_nI hu (by omega), ?_⟩), fun z => absurd (nI_le (show d ≤ 16 by omega) (by omega)) z⟩
  rintro y rfl z rfl
  rw [nI_clamp (n := u) (by omega)]
  refine ⟨fun z => absurd z (by decide), fun _ => ⟨fun z => absurd z (by decide), fun _ => ⟨fun z => absurd z (by decide), fun _ => ⟨fun _ => ?_, fun z => absurd rfl z⟩⟩⟩⟩
  rw [nI_add]
  exact g10 h3 (by simp only [List.length_append, List.length_cons, List.length_nil]; omega) (by omega) hu (fun M4 h4 => hQ M4 h4)
theorem g14 {n d u : Nat} {M0 M : gh_M} {l : List Int32} {Q : Int32 → gh_M → Prop} (h : cA M0 M l) (hl : l.length + 3 ≤ 16) (hd : d + 2 ≤ 16) (hu : u < 5) (hQ : ∀ M', cA M0 M' (l ++ [nI 14] ++ [nI 13] ++ [nI 10]) → Q (nI 2 * (M0 9 0 u - nI 100)) M') : wp_X1_give (n + 3) 0 (nI u) (nI 14) (nI d) M Q := by
  unfold wp_X1_give
  refine ⟨fun _ => c_beg h (by omega) (fun M3 h3 => ⟨vp_in_nI hu (by omega), ?_⟩), fun z => absurd (nI_le (show d ≤ 16 by omega) (by omega)) z⟩
  rintro y rfl z rfl
  rw [nI_clamp (n := u) (by omega)]
  refine ⟨fun z => absurd z (by decide), fun _ => ⟨fun z => absurd z (by decide), fun _ => ⟨fun z => absurd z (by decide), fun _ => ⟨fun z => absurd z (by decide), fun _ => ⟨fun _ => ?_, fun z => absurd rfl z⟩⟩⟩⟩⟩
  rw [nI_add]
  exact g13 h3 (by simp only [List.length_append, List.length_cons, List.length_nil]; omega) (by omega) hu (fun M4 h4 => hQ M4 h4)
def mkv (M0 : gh_M) (u k : Nat) : Int32 := if k = 2 then nI 2 * w21 M0 u else if k = 3 then w21 M0 u - nI 1000 else w21 M0 u
def mkl (k : Nat) (l : List Int32) : List Int32 := if k = 2 then l ++ [nI 24] ++ [nI 21] ++ [nI 20] else if k = 3 then l ++ [nI 22] ++ [nI 21] ++ [nI 20] else l ++ [nI 21] ++ [nI 20]
theorem mkl_len {k : Nat} {l : List Int32} : (mkl k l).length ≤ l.length + 3 := by
  unfold mkl
  split
  · simp only [List.length_append, List.length_cons, List.length_nil]; omega
  · split
    · simp only [List.length_append, List.length_cons, List.length_nil]; omega
    · simp only [List.length_append, List.length_cons, List.length_nil]; omega
theorem gMk {n d u k : Nat} {M0 M : gh_M} {l : List Int32} {Q : Int32 → gh_M → Prop} (h : cA M0 M l) (hl : l.length + 3 ≤ 16) (hd : d + 3 ≤ 16) (hu : u < 5) (hk : 1 ≤ k ∧ k ≤ 3) (hQ : ∀ M', cA M0 M' (mkl k l) → Q (mkv M0 u k) M') : wp_X1_give (n + 3) 0 (nI u) (gh_tab 1 k) (nI d) M Q := by
  have : k = 1 ∨ k = 2 ∨ k = 3 := by omega
  rcases this with rfl | rfl | rfl
  · rw [show gh_tab 1 1 = nI 21 by decide]
    exact g21 h (by omega) (by omega) hu hQ
  · rw [show gh_tab 1 2 = nI 24 by decide]
    exact g24 h (by omega) (by omega) hu hQ
  · rw [show gh_tab 1 3 = nI 22 by decide]
    exact g22 h (by omega) (by omega) hu hQ
theorem g11 {n d u : Nat} {M0 M : gh_M} {l : List Int32} {Q : Int32 → gh_M → Prop} (h : cA M0 M l) (hl : l.length + 5 ≤ 16) (hd : d + 4 ≤ 16) (hu : u < 5) {k : Nat} (hk : 1 ≤ k ∧ k ≤ 3) (ek : M0 7 0 u = nI k) (hQ : ∀ M', cA M0 M' (mkl k (l ++ [nI 11] ++ [nI 10])) → Q (M0 9 0 u + mkv M0 u k) M') : wp_X1_give (n + 4) 0 (nI u) (nI 11) (nI d) M Q := by
  unfold wp_X1_give
  refine ⟨fun _ => c_beg h (by omega) (fun M3 h3 => ⟨vp_in_nI hu (by omega), ?_⟩), fun z => absurd (nI_le (show d ≤ 16 by omega) (by omega)) z⟩
  rintro y rfl z rfl
  rw [nI_clamp (n := u) (by omega)]
  refine ⟨fun z => absurd z (by decide), fun _ => ⟨fun _ => ?_, fun z => absurd rfl z⟩⟩
  rw [nI_add]
  refine g10 h3 (by simp only [List.length_append, List.length_cons, List.length_nil]; omega) (by omega) hu (fun M4 h4 => ?_)
  rw [h3.2.2.2 7 0 (by omega) (by omega), ek, nI_clamp (n := k) (by omega)]
  exact ⟨vp_in_nI (by omega) (by omega), gMk h4 (by simp only [List.length_append, List.length_cons, List.length_nil]; omega) (by omega) hu hk (fun M5 h5 => hQ M5 h5)⟩
theorem g12 {n d u : Nat} {M0 M : gh_M} {l : List Int32} {Q : Int32 → gh_M → Prop} (h : cA M0 M l) (hl : l.length + 6 ≤ 16) (hd : d + 5 ≤ 16) (hu : u < 5) {k : Nat} (hk : 1 ≤ k ∧ k ≤ 3) (ek : M0 7 0 u = nI k) (hQ : ∀ M', cA M0 M' (mkl k (l ++ [nI 12] ++ [nI 11] ++ [nI 10])) → Q (nI 0 - (M0 9 0 u + mkv M0 u k)) M') : wp_X1_give (n + 5) 0 (nI u) (nI 12) (nI d) M Q := by
  unfold wp_X1_give
  refine ⟨fun _ => c_beg h (by omega) (fun M3 h3 => ⟨vp_in_nI hu (by omega), ?_⟩), fun z => absurd (nI_le (show d ≤ 16 by omega) (by omega)) z⟩
  rintro y rfl z rfl
  rw [nI_clamp (n := u) (by omega)]
  refine ⟨fun z => absurd z (by decide), fun _ => ⟨fun z => absurd z (by decide), fun _ => ⟨fun _ => ?_, fun z => absurd rfl z⟩⟩⟩
  rw [nI_add]
  exact g11 h3 (by simp only [List.length_append, List.length_cons, List.length_nil]; omega) (by omega) hu hk ek (fun M5 h5 => hQ M5 h5)
def szv (M0 : gh_M) (u k : Nat) : Int32 := if k = 2 then nI 0 - (M0 9 0 u + mkv M0 u k) else if k = 4 then M0 9 0 u - nI 100 else if k = 5 then nI 2 * (M0 9 0 u - nI 100) else M0 9 0 u + mkv M0 u k
def szl (k : Nat) (l : List Int32) : List Int32 := if k = 2 then mkl k (l ++ [nI 12] ++ [nI 11] ++ [nI 10]) else if k = 4 then l ++ [nI 13] ++ [nI 10] else if k = 5 then l ++ [nI 14] ++ [nI 13] ++ [nI 10] else mkl k (l ++ [nI 11] ++ [nI 10])
theorem gSz {n d u k : Nat} {M0 M : gh_M} {l : List Int32} {Q : Int32 → gh_M → Prop} (h : cA M0 M l) (hl : l.length + 6 ≤ 16) (hd : d + 5 ≤ 16) (hu : u < 5) (hk : 1 ≤ k ∧ k ≤ 5) (ek : M0 7 0 u = nI k) (hQ : ∀ M', cA M0 M' (szl k l) → Q (szv M0 u k) M') : wp_X1_give (n + 5) 0 (nI u) (gh_tab 2 k) (nI d) M Q := by
  have : k = 1 ∨ k = 2 ∨ k = 3 ∨ k = 4 ∨ k = 5 := by omega
  rcases this with rfl | rfl | rfl | rfl | rfl
  · rw [show gh_tab 2 1 = nI 11 by decide]
    exact g11 h (by omega) (by omega) hu (by omega) ek hQ
  · rw [show gh_tab 2 2 = nI 12 by decide]
    exact g12 h (by omega) (by omega) hu (by omega) ek hQ
  · rw [show gh_tab 2 3 = nI 11 by decide]
    exact g11 h (by omega) (by omega) hu (by omega) ek hQ
  · rw [show gh_tab 2 4 = nI 13 by decide]
    exact g13 h (by omega) (by omega) hu hQ
  · rw [show gh_tab 2 5 = nI 14 by decide]
    exact g14 h (by omega) (by omega) hu hQ
theorem g23 {n d u : Nat} {M0 M : gh_M} {l : List Int32} {Q : Int32 → gh_M → Prop} (h : cA M0 M l) (hl : l.length + 8 ≤ 16) (hd : d + 6 ≤ 16) (hu : u < 5) {k : Nat} (hk : 1 ≤ k ∧ k ≤ 5) (ek : M0 7 0 u = nI k) (hQ : ∀ M', cA M0 M' (szl k (l ++ [nI 23] ++ [nI 20])) → Q (nI u - szv M0 u k) M') : wp_X1_give (n + 6) 0 (nI u) (nI 23) (nI d) M Q := by
  unfold wp_X1_give
  refine ⟨fun _ => c_beg h (by omega) (fun M3 h3 => ⟨vp_in_nI hu (by omega), ?_⟩), fun z => absurd (nI_le (show d ≤ 16 by omega) (by omega)) z⟩
  rintro y rfl z rfl
  rw [nI_clamp (n := u) (by omega)]
  refine ⟨fun z => absurd z (by decide), fun _ => ⟨fun z => absurd z (by decide), fun _ => ⟨fun z => absurd z (by decide), fun _ => ⟨fun z => absurd z (by decide), fun _ => ⟨fun z => absurd z (by decide), fun _ => ⟨fun z => absurd z (by decide), fun _ => ⟨fun z => absurd z (by decide), fun _ => ⟨fun z => absurd z (by decide), fun _ => ⟨fun z => absurd z (by decide), fun _ => ⟨fun z => absurd z (by decide), fun _ => ⟨fun z => absurd z (by decide), fun _ => ⟨fun z => absurd z (by decide), fun _ => ⟨fun z => absurd z (by decide), fun _ => ⟨fun _ => ?_, fun z => absurd rfl z⟩⟩⟩⟩⟩⟩⟩⟩⟩⟩⟩⟩⟩⟩
  rw [nI_add]
  refine g20 h3 (by simp only [List.length_append, List.length_cons, List.length_nil]; omega) (by omega) hu (fun M4 h4 => ?_)
  rw [h3.2.2.2 7 0 (by omega) (by omega), ek, nI_clamp (n := k) (by omega)]
  exact ⟨vp_in_nI (by omega) (by omega), gSz h4 (by simp only [List.length_append, List.length_cons, List.length_nil]; omega) (by omega) hu hk ek (fun M5 h5 => hQ M5 h5)⟩
def mav (M0 : gh_M) (u k : Nat) : Int32 := if k < 4 then mkv M0 u k else nI u - szv M0 u k
def mal (k : Nat) (l : List Int32) : List Int32 := if k < 4 then mkl k l else szl k (l ++ [nI 23] ++ [nI 20])
theorem gMa {n d u k : Nat} {M0 M : gh_M} {l : List Int32} {Q : Int32 → gh_M → Prop} (h : cA M0 M l) (hl : l.length + 8 ≤ 16) (hd : d + 6 ≤ 16) (hu : u < 5) (hk : 1 ≤ k ∧ k ≤ 5) (ek : M0 7 0 u = nI k) (hQ : ∀ M', cA M0 M' (mal k l) → Q (mav M0 u k) M') : wp_X1_give (n + 6) 0 (nI u) (gh_tab 1 k) (nI d) M Q := by
  unfold mav mal at hQ
  by_cases q : k < 4
  · rw [if_pos q, if_pos q] at hQ
    exact gMk (n := n + 3) h (by omega) (by omega) hu (by omega) hQ
  · rw [if_neg q, if_neg q] at hQ
    have : k = 4 ∨ k = 5 := by omega
    rcases this with rfl | rfl
    · rw [show gh_tab 1 4 = nI 23 by decide]
      exact g23 h (by omega) (by omega) hu (by omega) ek hQ
    · rw [show gh_tab 1 5 = nI 23 by decide]
      exact g23 h (by omega) (by omega) hu (by omega) ek hQ
-- the reference: the train's numbers are M0's
section RB
variable {u k : Nat} {N0 M0 M : gh_M} {T : TT} {l : List Int32} {Q : Int32 → gh_M → Prop}
def rq (M0 N0 : gh_M) (T : TT) (u k : Nat) : Prop := u < 5 ∧ 1 ≤ k ∧ k ≤ 5 ∧ rr N0 0 T ∧ T (4 + 5 * u) = nI k ∧ T (4 + 5 * u + 2) = M0 9 0 u ∧ T (4 + 5 * u + 4) = M0 11 0 u
theorem rAk (g : rq M0 N0 T u k) (h : rA N0 M l) {i : Nat} (hi : i < 71) : M 33 0 i = T i := by
  rw [h.2.2.2 33 0 i (by omega) (by omega)]
  exact g.2.2.2.1.at0 hi rfl
theorem rkA (g : rq M0 N0 T u k) (h : rA N0 M l) (hQ : Q (nI k) M) : wp_X7_kindAt (nI u) M Q := by
  have hu := g.1
  unfold wp_X7_kindAt wp_X7_trickAt
  simp (disch := omega) only [nI_add, pk_mul, nI_clamp, zb_in, true_and]
  rw [rAk g h (by omega), show 0 + 4 + 5 * u = 4 + 5 * u by omega, g.2.2.2.2.1]
  exact hQ
theorem b20 (h : rA N0 M l) (hl : l.length + 1 ≤ 16) (hQ : ∀ M', rA N0 M' (l ++ [nI 20]) → Q (nI u) M') : wp_X7_body20 (nI u) M Q := r_beg2 h (by omega) (fun M3 h3 => hQ M3 h3)
theorem b10 (g : rq M0 N0 T u k) (h : rA N0 M l) (hl : l.length + 1 ≤ 16) (hQ : ∀ M', rA N0 M' (l ++ [nI 10]) → Q (M0 9 0 u) M') : wp_X7_body10 (nI u) M Q := by
  have hu := g.1
  refine r_beg2 h (by omega) (fun M3 h3 => ?_)
  unfold wp_X7_trickAt
  simp (disch := omega) only [nI_add, pk_mul, nI_clamp, zb_in, true_and]
  rw [rAk g h3 (by omega), show 0 + 4 + 5 * u + 2 = 4 + 5 * u + 2 by omega, g.2.2.2.2.2.1]
  exact hQ M3 h3
theorem b21 (g : rq M0 N0 T u k) (h : rA N0 M l) (hl : l.length + 2 ≤ 16) (hQ : ∀ M', rA N0 M' (l ++ [nI 21] ++ [nI 20]) → Q (w21 M0 u) M') : wp_X7_body21 (nI u) M Q := by
  have hu := g.1
  refine r_beg2 h (by omega) (fun M3 h3 => b20 h3 (by simp only [List.length_append, List.length_cons, List.length_nil]; omega) (fun M4 h4 => ?_))
  unfold wp_X7_metOf wp_X7_trickAt
  simp (disch := omega) only [nI_add, pk_mul, nI_clamp, zb_in, true_and]
  rw [rAk g h4 (by omega), show 0 + 4 + 5 * u + 4 = 4 + 5 * u + 4 by omega, g.2.2.2.2.2.2]
  exact hQ M4 h4
theorem bMk (g : rq M0 N0 T u k) (h : rA N0 M l) (hl : l.length + 3 ≤ 16) (hQ : ∀ M', rA N0 M' (mkl k l) → Q (mkv M0 u k) M') : wp_X7_markOfBones (nI u) M Q := by
  have hk1 := g.2.1
  have hk5 := g.2.2.1
  unfold wp_X7_markOfBones
  refine rkA g h ?_
  unfold mkl mkv at hQ
  rw [nI_eq (a := k) (b := 2) (by omega) (by omega), nI_eq (a := k) (b := 3) (by omega) (by omega)]
  refine ⟨fun q => ?_, fun q => ⟨fun q2 => ?_, fun q2 => ?_⟩⟩
  · rw [if_pos q, if_pos q] at hQ
    exact r_beg2 h (by omega) (fun M3 h3 => b21 g h3 (by simp only [List.length_append, List.length_cons, List.length_nil]; omega) (fun M4 h4 => hQ M4 h4))
  · rw [if_neg q, if_neg q, if_pos q2, if_pos q2] at hQ
    exact r_beg2 h (by omega) (fun M3 h3 => b21 g h3 (by simp only [List.length_append, List.length_cons, List.length_nil]; omega) (fun M4 h4 => hQ M4 h4))
  · rw [if_neg q, if_neg q, if_neg q2, if_neg q2] at hQ
    exact b21 g h (by omega) (fun M4 h4 => hQ M4 h4)
theorem b11 (g : rq M0 N0 T u k) (h : rA N0 M l) (hl : l.length + 5 ≤ 16) (hQ : ∀ M', rA N0 M' (mkl k (l ++ [nI 11] ++ [nI 10])) → Q (M0 9 0 u + mkv M0 u k) M') : wp_X7_body11 (nI u) M Q :=
  r_beg2 h (by omega) (fun M3 h3 => b10 g h3 (by simp only [List.length_append, List.length_cons, List.length_nil]; omega) (fun M4 h4 => bMk g h4 (by simp only [List.length_append, List.length_cons, List.length_nil]; omega) (fun M5 h5 => hQ M5 h5)))
theorem b13 (g : rq M0 N0 T u k) (h : rA N0 M l) (hl : l.length + 2 ≤ 16) (hQ : ∀ M', rA N0 M' (l ++ [nI 13] ++ [nI 10]) → Q (M0 9 0 u - nI 100) M') : wp_X7_body13 (nI u) M Q :=
  r_beg2 h (by omega) (fun M3 h3 => b10 g h3 (by simp only [List.length_append, List.length_cons, List.length_nil]; omega) (fun M4 h4 => hQ M4 h4))
theorem bSz (g : rq M0 N0 T u k) (h : rA N0 M l) (hl : l.length + 6 ≤ 16) (hQ : ∀ M', rA N0 M' (szl k l) → Q (szv M0 u k) M') : wp_X7_sizeOf (nI u) M Q := by
  have hk1 := g.2.1
  have hk5 := g.2.2.1
  unfold wp_X7_sizeOf
  refine rkA g h ?_
  unfold szl szv at hQ
  rw [nI_eq (a := k) (b := 2) (by omega) (by omega), nI_eq (a := k) (b := 3) (by omega) (by omega), nI_eq (a := k) (b := 4) (by omega) (by omega), nI_eq (a := k) (b := 5) (by omega) (by omega)]
  refine ⟨fun q => ?_, fun q => ⟨fun q2 => ?_, fun q2 => ⟨fun q3 => ?_, fun q3 => ⟨fun q4 => ?_, fun q4 => ?_⟩⟩⟩⟩
  · rw [if_pos q, if_pos q] at hQ
    refine r_beg2 h (by omega) (fun M3 h3 => b11 g h3 (by simp only [List.length_append, List.length_cons, List.length_nil]; omega) (fun M4 h4 => ?_))
    rw [show -(M0 9 0 u + mkv M0 u k) = nI 0 - (M0 9 0 u + mkv M0 u k) from (Int32.zero_sub _).symm]
    exact hQ M4 h4
  · rw [if_neg q, if_neg q, if_neg (by omega), if_neg (by omega), if_neg (by omega), if_neg (by omega)] at hQ
    exact b11 g h (by omega) (fun M4 h4 => hQ M4 h4)
  · rw [if_neg q, if_neg q, if_pos q3, if_pos q3] at hQ
    exact b13 g h (by omega) (fun M4 h4 => hQ M4 h4)
  · rw [if_neg q, if_neg q, if_neg q3, if_neg q3, if_pos q4, if_pos q4] at hQ
    exact r_beg2 h (by omega) (fun M3 h3 => b13 g h3 (by simp only [List.length_append, List.length_cons, List.length_nil]; omega) (fun M4 h4 => hQ M4 h4))
  · rw [if_neg q, if_neg q, if_neg q3, if_neg q3, if_neg q4, if_neg q4] at hQ
    exact b11 g h (by omega) (fun M4 h4 => hQ M4 h4)
theorem bMa (g : rq M0 N0 T u k) (h : rA N0 M l) (hl : l.length + 8 ≤ 16) (hQ : ∀ M', rA N0 M' (mal k l) → Q (mav M0 u k) M') : wp_X7_markOf (nI u) M Q := by
  have hk1 := g.2.1
  have hk5 := g.2.2.1
  unfold wp_X7_markOf
  refine rkA g h ?_
  unfold mal mav at hQ
  rw [nI_leI (a := 4) (b := k) (by omega) (by omega)]
  refine ⟨fun q => ?_, fun q => ?_⟩
  · rw [if_neg (by omega), if_neg (by omega)] at hQ
    exact r_beg2 h (by omega) (fun M3 h3 => b20 h3 (by simp only [List.length_append, List.length_cons, List.length_nil]; omega) (fun M4 h4 => bSz g h4 (by simp only [List.length_append, List.length_cons, List.length_nil]; omega) (fun M5 h5 => hQ M5 h5)))
  · rw [if_pos (by omega), if_pos (by omega)] at hQ
    exact bMk g h (by omega) (fun M5 h5 => hQ M5 h5)
end RB
def stC (S : SS) (l : List Int32) : SS := (S.1, S.2.1, S.2.2.1, (l.length, fun i => l.getD i 0), S.2.2.2.2)
theorem CS.ask {M0 M : gh_M} {S : SS} {l : List Int32} (hC : CS M0 S) (h : cA M0 M l) : CS M (stC S l) := by
  obtain ⟨h0, h1, h2, h3, h4, h5, h6, h7, h8, h9⟩ := hC
  obtain ⟨l1, l2, l3, e⟩ := h
  refine ⟨fun t ht => ?_, h1.mv (fun a b q => e a b (by omega) (by omega)), ?_, ?_, ?_, ⟨l1, l2, l3⟩, h6.mv (fun a q1 q2 => e a 0 (by omega) (by omega)), h7.mv (fun a t q1 q2 q3 q4 => e a t (by omega) (by omega)) (e 21 0 (by omega) (by omega)), h8.mv (fun a t q1 q2 q3 q4 => e a t (by omega) (by omega)), h9.mv ?_ ?_ ?_⟩
  · have := h0 t ht
    unfold bo at this ⊢
    rw [e 10 t (by omega) (by omega), e 18 t (by omega) (by omega)]
    exact this
  · unfold cTap at h2 ⊢
    rw [e 4 0 (by omega) (by omega), e 5 0 (by omega) (by omega)]
    exact h2
  · rw [e 0 0 (by omega) (by omega)]; exact h3
  · rw [e 0 0 (by omega) (by omega)]; exact h4
  · rw [e 24 0 (by omega) (by omega)]
  · rw [e 24 0 (by omega) (by omega)]
  · rw [e 26 0 (by omega) (by omega)]
theorem RS.ask {M0 M : gh_M} {S : SS} {l : List Int32} (hR : RS M0 S) (h : rA M0 M l) : RS M (stC S l) := by
  obtain ⟨h1, h2, h3, h4, h5, h6, h7, h8⟩ := hR
  obtain ⟨l1, l2, l3, e⟩ := h
  have er : ∀ x T, rr M0 x T → rr M x T := fun x T g i hi => (e 33 0 (x + i) (by omega) (by omega)).trans (g i hi)
  refine ⟨h1.mv (fun a i q => e a 0 i (by omega) (by omega)), ⟨?_, fun i hi => ?_⟩, ?_, ?_, ⟨l2, l3⟩, ?_, ⟨?_, fun i hi => ?_⟩, ⟨?_, fun k hk X hX => ?_⟩⟩
  · rw [e 32 0 8 (by omega) (by omega)]; exact h2.1
  · rw [e 37 0 i (by omega) (by omega)]; exact h2.2 i hi
  · rw [e 32 0 9 (by omega) (by omega)]; exact h3
  · rw [e 32 0 13 (by omega) (by omega)]; exact h4
  · show rTrn M S.2.2.2.2.1
    unfold rTrn at h6 ⊢
    cases q : S.2.2.2.2.1 with
    | none =>
      rw [q] at h6
      show M 33 0 0 = nI 0 ∧ M 33 0 1 = nI 0 ∧ M 33 0 2 = nI 0 ∧ M 33 0 3 = nI 0
      rw [e 33 0 0 (by omega) (by omega), e 33 0 1 (by omega) (by omega), e 33 0 2 (by omega) (by omega), e 33 0 3 (by omega) (by omega)]
      exact h6
    | some X => rw [q] at h6; exact er _ _ h6
  · rw [e 32 0 1 (by omega) (by omega)]; exact h7.1
  · exact er _ _ (h7.2 i hi)
  · rw [e 32 0 2 (by omega) (by omega)]; exact h8.1
  · exact er _ _ (h8.2 k hk X hX)
theorem L_ask {a0 a1 : Int32} {M : gh_M} {S : SS} (hC : CS M S) (hR : RS M S) : wp_X6_ask a0 a1 M (fun r1 M1 => wp_X7_ask a0 a1 M1 (fun r2 M2 => r1 = r2 ∧ OKn M2)) := by
  have hOK : OKn M := ⟨S, hC, hR⟩
  have hT := hC.2.2.2.2.2.2.1
  have hT2 := hR.2.2.2.2.2.1
  obtain ⟨e0, e1, e2, b0, b1, b2⟩ := hT.hd
  obtain ⟨f0, f1, f2⟩ := hT2.hd hT.ok
  unfold wp_X6_ask wp_X7_ask
  rcases ix a0 (ont S.2.2.2.2.1) (by omega) with ⟨u, hu, rfl⟩ | hb
  · refine c_isTy e1 hu (by omega) ?_
    simp only [z1, not_false_eq_true, t01, false_implies, true_and, and_true]
    rcases few a1 1 (by omega) with ⟨a, ha, rfl⟩ | ⟨hb, -⟩
    · refine w6y (nI_nlt (by omega) (by omega)) (nI_nlt ha (by omega)) ?_
      simp only [z1, not_false_eq_true, t01, false_implies, true_and, and_true]
      cases hX : S.2.2.2.2.1 with
      | none => rw [hX] at hu; exact absurd hu (Nat.not_lt_zero _)
      | some X =>
        rw [hX] at e0 e1 e2 f0 f1 f2 b0 b1 b2 hu
        have hu' : u < X.2.1.2.1 := hu
        have b1' : X.2.1.2.1 ≤ 5 := b1
        obtain ⟨hk, hz, h19⟩ := hC.trn hX
        have hd := hz.cd
        have hr := hR.trn hX
        obtain ⟨k, hk1, hk5, ek⟩ := hz.wf.1 u hu'
        have ek0 : M 7 0 u = nI k := (hd.k0 hu').trans ek
        unfold wp_X1_answer
        rintro M1 e1'
        have c1 : cA M M1 [] := ⟨by simp, by rw [e1', zb_s]; rfl, fun i hi => absurd hi (Nat.not_lt_zero _), fun a b q1 q2 => by rw [e1', zb_kr _ _ _ _ _ q1]⟩
        rw [nI_clamp (n := u) (by omega), c1.2.2.2 7 0 (by omega) (by omega), ek0]
        refine ⟨vp_in_nI (by omega) (by omega), ?_⟩
        rintro y rfl
        refine w6y (nI_nlt (by omega) (by omega)) (nI_nlt hk5 (by omega)) ?_
        simp only [z1, not_false_eq_true, t01, false_implies, true_and, and_true]
        rw [nI_clamp (n := k) (by omega)]
        have ref : ∀ (r1 : Int32) (M2 : gh_M) (l : List Int32), cA M M2 l → (nI a = 0 → r1 = szv M u k ∧ l = szl k []) → (¬ nI a = 0 → r1 = mav M u k ∧ l = mal k []) → wp_X7_isTrick (nI u) M2 (fun r1_1 M2 => ((r1_1 = 0 → r1 = (-1000001 : Int32) ∧ OKn M2) ∧ (¬ r1_1 = 0 → wp_X7_in (nI a) (nI 0) (nI 1) M2 (fun r4 M5 => ((¬ r4 = 0 → ∀ M7, M7 = (gh_st M5 32 0 15 (nI 0)) → ((¬ nI a = 0 → wp_X7_markOf (nI u) M7 (fun r9 M10 => r1 = r9 ∧ OKn M10)) ∧ (nI a = 0 → wp_X7_sizeOf (nI u) M7 (fun r11 M12 => r1 = r11 ∧ OKn M12)))) ∧ (r4 = 0 → r1 = (-1000001 : Int32) ∧ OKn M5)))))) := by
          intro r1 M2 l hl hs hm
          have fr : fR M M2 := fun a b q => hl.2.2.2 a b (by omega) (by omega)
          have hC2 := hC.ask hl
          have hR2 := hR.fR fr hC.n24
          refine r_isTy ((congrFun (fr 33 0 (by omega)) 1).trans f1) hu (by omega) ?_
          simp only [z1, not_false_eq_true, t01, false_implies, true_and, and_true]
          refine w7y (nI_nlt (by omega) (by omega)) (nI_nlt ha (by omega)) ?_
          simp only [z1, not_false_eq_true, t01, false_implies, true_and, and_true]
          intro M7 e7
          have r7 : rA M2 M7 [] := ⟨by simp, by rw [e7, zb_s]; rfl, fun i hi => absurd hi (Nat.not_lt_zero _), fun a b i q1 q2 => by rw [e7, zb_st, if_neg q1]⟩
          have g : rq M M2 X.1 u k := ⟨by omega, hk1, hk5, hR2.trn hX, ek, (hd.k2 hu').symm, (hd.k4 hu').symm⟩
          have fin : ∀ M8, rA M2 M8 l → OKn M8 := fun M8 h8 => ⟨stC S l, hC2.fC (fun a b q => funext fun i => h8.2.2.2 a b i (by omega) (by omega)), hR2.ask h8⟩
          refine ⟨fun q => ?_, fun q => ?_⟩
          · obtain ⟨h1, h2⟩ := hm q
            exact bMa g r7 (by simp) (fun M8 h8 => ⟨h1, fin M8 (h2 ▸ h8)⟩)
          · obtain ⟨h1, h2⟩ := hs q
            exact bSz g r7 (by simp) (fun M8 h8 => ⟨h1, fin M8 (h2 ▸ h8)⟩)
        refine ⟨fun q => ⟨vp_in_nI (by omega) (by omega), ?_⟩, fun q => ⟨vp_in_nI (by omega) (by omega), ?_⟩⟩
        · exact gMa (n := 14) (d := 0) c1 (by simp) (by omega) (by omega) ⟨hk1, hk5⟩ ek0 (fun M2 h2 => ref _ M2 _ h2 (fun z => absurd z q) (fun _ => ⟨rfl, rfl⟩))
        · exact gSz (n := 15) (d := 0) c1 (by simp) (by omega) (by omega) ⟨hk1, hk5⟩ ek0 (fun M2 h2 => ref _ M2 _ h2 (fun _ => ⟨rfl, rfl⟩) (fun z => absurd q z))
    · refine w6n hb ?_
      simp only [z0, not_true_eq_false, t01, false_implies, true_and, and_true]
      refine r_isTy f1 hu (by omega) ?_
      simp only [z1, not_false_eq_true, t01, false_implies, true_and, and_true]
      refine w7n hb ?_
      simp only [z0, not_true_eq_false, t01, false_implies, true_and, and_true]
      exact hOK
  · refine c_isTn e1 hb ?_
    simp only [z0, not_true_eq_false, t01, false_implies, true_and, and_true]
    refine r_isTn f1 hb ?_
    simp only [z0, not_true_eq_false, t01, false_implies, true_and, and_true]
    exact hOK
