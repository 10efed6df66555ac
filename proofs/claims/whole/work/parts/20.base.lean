-- PLAIN FACTS for the pure part
theorem zb_in {n N : Nat} (h : n < N) (hN : N < 2 ^ 31) : vp_in (nI n) N ↔ True := iff_true_intro (vp_in_nI h hN)
theorem zb_st (M : gh_M) (k t j : Nat) (v : Int32) (a b c : Nat) : gh_st M k t j v a b c = if a = k ∧ b = t ∧ c = j then v else M a b c := by
  unfold gh_st gh_row upd
  by_cases h : a = k ∧ b = t
  · obtain ⟨rfl, rfl⟩ := h
    simp
  · rw [if_neg h, if_neg (fun q => h ⟨q.1, q.2.1⟩)]
theorem zb_s (M : gh_M) (k t j : Nat) (v : Int32) : gh_st M k t j v k t j = v := by rw [zb_st, if_pos ⟨rfl, rfl, rfl⟩]
theorem zb_j (M : gh_M) (k t : Nat) {j c : Nat} (v : Int32) (h : c ≠ j) : gh_st M k t j v k t c = M k t c := by rw [zb_st, if_neg (fun q => h q.2.2)]
theorem zb_k (M : gh_M) {k a : Nat} (t j : Nat) (v : Int32) (b c : Nat) (h : a ≠ k) : gh_st M k t j v a b c = M a b c := by rw [zb_st, if_neg (fun q => h q.1)]
theorem zb_t (M : gh_M) (k : Nat) {t b : Nat} (j : Nat) (v : Int32) (a c : Nat) (h : b ≠ t) : gh_st M k t j v a b c = M a b c := by rw [zb_st, if_neg (fun q => h q.2.1)]
theorem zb_kr (M : gh_M) {k a : Nat} (t j : Nat) (v : Int32) (b : Nat) (h : a ≠ k) : gh_st M k t j v a b = M a b := funext fun c => zb_k M t j v b c h
theorem zb_tr (M : gh_M) (k : Nat) {t b : Nat} (j : Nat) (v : Int32) (a : Nat) (h : b ≠ t) : gh_st M k t j v a b = M a b := funext fun c => zb_t M k j v a c h
theorem zb_row (M : gh_M) (k t : Nat) (f : Nat → Int32) (a b c : Nat) : gh_row M k t f a b c = if a = k ∧ b = t then f c else M a b c := by
  unfold gh_row
  by_cases h : a = k ∧ b = t
  · rw [if_pos h, if_pos h]
  · rw [if_neg h, if_neg h]
theorem zb_upd (f : Nat → Int32) (k : Nat) (v : Int32) (j : Nat) : upd f k v j = if j = k then v else f j := rfl
theorem zb_nI_inj {a b : Nat} (h : nI a = nI b) (ha : a < 2 ^ 31) (hb : b < 2 ^ 31) : a = b := (nI_eq ha hb).mp h
theorem zb_le {x : Int32} {a : Nat} (h : 0 ≤ x) (h2 : x ≤ nI a) (ha : a < 2 ^ 31) : ∃ n, n ≤ a ∧ x = nI n := by
  have h0 : ¬ x < 0 := Int32.not_lt.mpr h
  obtain ⟨j, hj, rfl⟩ := nI_of h0
  exact ⟨j, (nI_leI hj ha).mp h2, rfl⟩
theorem zb_0 : (0 : Int32) = nI 0 := rfl
theorem zb_1 : (1 : Int32) = nI 1 := rfl
/-- a test for a range: both ends, or what lies within as a number -/
theorem zb_rng (x : Int32) (lo hi : Nat) (hl : lo < 2 ^ 31) (hh : hi < 2 ^ 31) : x < nI lo ∨ (¬ x < nI lo ∧ nI hi < x) ∨ ∃ n, lo ≤ n ∧ n ≤ hi ∧ x = nI n := by
  rcases Int32.lt_or_le x (nI lo) with h | h
  · exact Or.inl h
  · rcases Int32.lt_or_le (nI hi) x with h2 | h2
    · exact Or.inr (Or.inl ⟨Int32.not_lt.mpr h, h2⟩)
    · have h0 : (0 : Int32) ≤ x := Int32.le_trans (nI_pos' hl) h
      obtain ⟨n, h3, rfl⟩ := zb_le h0 h2 hh
      exact Or.inr (Or.inr ⟨n, (nI_leI hl (by omega)).mp h, h3, rfl⟩)
