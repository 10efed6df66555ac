-- ORDER: both searches find the same
theorem pm_p5 : ∀ na, na < 6 → ∀ l, l ∈ pmF 720 (List.range na) → l.isPerm (List.range na) = true := by decide +kernel
theorem pm_p6 : ∀ l, l ∈ L6 → l.isPerm (List.range 6) = true := by decide +kernel
theorem pm_p {na : Nat} (h : na < 7) {l : List Nat} (hl : l ∈ pmF 720 (List.range na)) : l.Perm (List.range na) := by
  by_cases q : na < 6
  · exact List.isPerm_iff.mp (pm_p5 na q l hl)
  · have : na = 6 := by omega
    subst this
    rw [L6_e] at hl
    exact List.isPerm_iff.mp (pm_p6 l hl)
theorem wo_len : ∀ na, na < 7 → ∀ m, m < 2 ^ na → (wls na m).length + (ols na m).length = na := by decide +kernel
theorem rkl_pf (l : List Nat) : ∀ (r k : Nat), k + r = l.length → rkl (pf l) k r = l.drop k
  | 0, k, h => by
    unfold rkl
    exact (List.drop_eq_nil_of_le (by omega)).symm
  | r + 1, k, h => by
    unfold rkl
    rw [rkl_pf l r (k + 1) (by omega), List.drop_eq_getElem_cons (by omega : k < l.length)]
    unfold pf
    rw [List.getD_eq_getElem?_getD, List.getElem?_eq_getElem (by omega)]
    rfl
theorem ov_key {X : TR} {n m : Nat} {l l' : List Nat} (hk : trOK X) (hm : ∀ c, c < X.2.1.2.2 → (bt m c = true ↔ X.1 (29 + 7 * c + 3) = nI 20)) (hl : l.Perm (List.range X.2.1.2.2)) (hl' : l'.Perm (List.range X.2.1.2.2)) (e : kyl m l = kyl m l') : ov X n l = ov X n l' := by
  have b0 := hk.hd.2.2.2.1
  have b1 := hk.hd.2.2.2.2.1
  have n1 : l.length = X.2.1.2.2 := by rw [hl.length_eq, List.length_range]
  have n2 : l'.length = X.2.1.2.2 := by rw [hl'.length_eq, List.length_range]
  have flt : ∀ z : List Nat, z.Perm (List.range X.2.1.2.2) → z.filter (fun c => decide (X.1 (29 + 7 * c + 3) = nI 20)) = kyl m z := fun z hz => by
    unfold kyl
    refine List.filter_congr (fun c hc => ?_)
    have hc' : c < X.2.1.2.2 := List.mem_range.mp (hz.mem_iff.mp hc)
    have := hm c hc'
    by_cases q : X.1 (29 + 7 * c + 3) = nI 20
    · rw [decide_eq_true q, this.mpr q]
    · rw [decide_eq_false q]
      cases h : bt m c
      · rfl
      · exact absurd (this.mp h) q
  have key : ∀ k, sp_run X.2.2 (pf l) X.2.1.1 X.2.1.2.1 X.2.1.2.2 k X.1 = sp_run X.2.2 (pf l') X.2.1.1 X.2.1.2.1 X.2.1.2.2 k X.1 := fun k => by
    refine sp_run_key (P := fun c => decide (X.1 (29 + 7 * c + 3) = nI 20)) b1 b0 (fun c hc => (hk.hd.2.2.2.2.2.2 c hc).2) ?_ k X.1 (fun c e => decide_eq_true e)
    rw [rkl_pf l X.2.1.2.2 0 (by omega), rkl_pf l' X.2.1.2.2 0 (by omega), List.drop_zero, List.drop_zero, flt l hl, flt l' hl', e]
  unfold ov
  rw [key n]
