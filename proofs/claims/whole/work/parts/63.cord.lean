-- ORDER: the class's search
/-- a row that holds a list -/
def rwl (K : Nat) (M : gh_M) (l : List Nat) : Prop := ∀ t, t < l.length → M K 0 t = nI (l.getD t 0)
theorem getD_l {a b : List Nat} {t : Nat} (h : t < a.length) : (a ++ b).getD t 0 = a.getD t 0 := by
  rw [List.getD_eq_getElem?_getD, List.getElem?_append, if_pos h, ← List.getD_eq_getElem?_getD]
theorem getD_r {a b : List Nat} {t : Nat} : (a ++ b).getD (a.length + t) 0 = b.getD t 0 := by
  rw [List.getD_eq_getElem?_getD, List.getElem?_append, if_neg (by omega), ← List.getD_eq_getElem?_getD, Nat.add_sub_cancel_left]
theorem rwl.snoc {K : Nat} {M : gh_M} {l : List Nat} (h : rwl K M l) (c : Nat) : rwl K (gh_st M K 0 l.length (nI c)) (l ++ [c]) := fun t ht => by
  by_cases q : t = l.length
  · subst q
    rw [zb_s]
    have := getD_r (a := l) (b := [c]) (t := 0)
    rw [Nat.add_zero] at this
    rw [this]
    rfl
  · have : t < l.length := by simp at ht; omega
    rw [zb_j _ _ _ _ q, getD_l this]
    exact h t this
theorem rwl.e {K : Nat} {M M' : gh_M} {l : List Nat} (h : rwl K M l) (e : M' K 0 = M K 0) : rwl K M' l := fun t ht => by rw [e]; exact h t ht
theorem wls_s (c m : Nat) : wls (c + 1) m = if bt m c = true then wls c m ++ [c] else wls c m := by
  unfold wls
  rw [List.range_succ, List.filter_append]
  by_cases q : bt m c = true
  · rw [if_pos q, List.filter_cons_of_pos q]; rfl
  · rw [if_neg q, List.filter_cons_of_neg q]; exact List.append_nil _
theorem ols_s (c m : Nat) : ols (c + 1) m = if bt m c = true then ols c m else ols c m ++ [c] := by
  unfold ols
  rw [List.range_succ, List.filter_append]
  by_cases q : bt m c = true
  · rw [if_pos q, List.filter_cons_of_neg (by rw [q]; decide)]; exact List.append_nil _
  · rw [if_neg q, List.filter_cons_of_pos (by simpa using q)]; rfl
theorem wls_le (c m : Nat) : (wls c m).length ≤ c := by
  have := List.length_filter_le (fun c => bt m c) (List.range c)
  rwa [List.length_range] at this
theorem ols_le (c m : Nat) : (ols c m).length ≤ c := by
  have := List.length_filter_le (fun c => !bt m c) (List.range c)
  rwa [List.length_range] at this
section O
variable {M0 : gh_M} {T : TT} {nt na m : Nat} {Q : Int32 → gh_M → Prop}
theorem c_lw2 (hd : cd M0 0 T nt na) (h2 : T 2 = nI na) (hna : na < 7) (hmm : m < 2 ^ na) (hm : ∀ c, c < na → (bt m c = true ↔ T (29 + 7 * c + 3) = nI 20)) (hQ : ∀ M', fk 27 M0 M' → rwl 27 M' (wls na m ++ ols na m) → Q (nI (wls na m).length) M') :
    ∀ (r c : Nat) (M : gh_M), c + r = na → fk 27 M0 M → rwl 27 M (wls na m ++ ols c m) → wl_X2_listWaitingFirst_44 0 Q (r + 1) (nI (wls na m).length) (nI ((wls na m).length + (ols c m).length)) (nI c) M
  | 0, c, M, hc, hf, hr => by
    have e : c = na := by omega
    subst e
    unfold wl_X2_listWaitingFirst_44
    rw [hf 6 0 (by omega), hd.2.2.1, h2]
    exact ⟨fun _ => hQ M hf hr, fun g => absurd (Int32.le_refl _) g⟩
  | r + 1, c, M, hc, hf, hr => by
    have w1 := wo_len na hna m hmm
    have u : c < na := by omega
    unfold wl_X2_listWaitingFirst_44
    rw [hf 6 0 (by omega), hd.2.2.1, h2, hf 15 0 (by omega), nI_clamp (by omega), hd.c3 u]
    refine ⟨fun g => absurd g (nI_ge (by omega) (by omega)), fun _ => ⟨vp_in_nI (by omega) (by omega), fun g => ?_, fun g => ?_⟩⟩
    · have b := (hm c u).mpr g
      have IH := c_lw2 hd h2 hna hmm hm hQ r (c + 1) M (by omega) hf (by rw [ols_s, if_pos b]; exact hr)
      rw [ols_s, if_pos b] at IH
      rintro _ rfl
      rw [nI_add]
      exact IH
    · have b : ¬ bt m c = true := fun b => g ((hm c u).mp b)
      have lb : (ols (c + 1) m).length ≤ (ols na m).length := by
        have : ∀ d, (ols (c + 1) m).length ≤ (ols (c + 1 + d) m).length := fun d => by
          induction d with
          | zero => exact Nat.le_refl _
          | succ d ih => rw [← Nat.add_assoc, ols_s (c + 1 + d)]; split; exact ih; rw [List.length_append]; omega
        have := this r
        rwa [show c + 1 + r = na by omega] at this
      have el : (ols (c + 1) m).length = (ols c m).length + 1 := by rw [ols_s, if_neg b, List.length_append]; rfl
      rw [nI_clamp (by omega)]
      refine ⟨vp_in_nI (by omega) (by omega), ?_⟩
      rintro _ rfl _ rfl _ rfl
      rw [nI_add, nI_add]
      have IH := c_lw2 hd h2 hna hmm hm hQ r (c + 1) (gh_st M 27 0 ((wls na m).length + (ols c m).length) (nI c)) (by omega) hf.st (by
        rw [ols_s, if_neg b, ← List.append_assoc, ← List.length_append]
        exact hr.snoc c)
      rw [el] at IH
      exact IH
theorem c_lw1 (hd : cd M0 0 T nt na) (h2 : T 2 = nI na) (hna : na < 7) (hmm : m < 2 ^ na) (hm : ∀ c, c < na → (bt m c = true ↔ T (29 + 7 * c + 3) = nI 20)) (hQ : ∀ M', fk 27 M0 M' → rwl 27 M' (wls na m ++ ols na m) → Q (nI (wls na m).length) M') :
    ∀ (r c : Nat) (M : gh_M), c + r = na → fk 27 M0 M → rwl 27 M (wls c m) → wl_X2_listWaitingFirst_4 0 Q (r + 1) (nI (wls c m).length) (nI c) M
  | 0, c, M, hc, hf, hr => by
    have e : c = na := by omega
    subst e
    unfold wl_X2_listWaitingFirst_4
    rw [hf 6 0 (by omega), hd.2.2.1, h2]
    refine ⟨fun _ => ⟨c + 1, ?_⟩, fun g => absurd (Int32.le_refl _) g⟩
    have := c_lw2 (Q := Q) hd h2 hna hmm hm hQ c 0 M (by omega) hf (by
      have e : ols 0 m = [] := rfl
      rw [e, List.append_nil]
      exact hr)
    exact this
  | r + 1, c, M, hc, hf, hr => by
    have w1 := wls_le c m
    have u : c < na := by omega
    unfold wl_X2_listWaitingFirst_4
    rw [hf 6 0 (by omega), hd.2.2.1, h2, hf 15 0 (by omega), nI_clamp (by omega), hd.c3 u]
    refine ⟨fun g => absurd g (nI_ge (by omega) (by omega)), fun _ => ⟨vp_in_nI (by omega) (by omega), fun g => ?_, fun g => ?_⟩⟩
    · have b : ¬ bt m c = true := fun b => g ((hm c u).mp b)
      have IH := c_lw1 hd h2 hna hmm hm hQ r (c + 1) M (by omega) hf (by rw [wls_s, if_neg b]; exact hr)
      rw [wls_s, if_neg b] at IH
      rintro _ rfl
      rw [nI_add]
      exact IH
    · have b := (hm c u).mpr g
      have el : (wls (c + 1) m).length = (wls c m).length + 1 := by rw [wls_s, if_pos b, List.length_append]; rfl
      rw [nI_clamp (by omega)]
      refine ⟨vp_in_nI (by omega) (by omega), ?_⟩
      rintro _ rfl _ rfl _ rfl
      rw [nI_add, nI_add]
      have IH := c_lw1 hd h2 hna hmm hm hQ r (c + 1) (gh_st M 27 0 (wls c m).length (nI c)) (by omega) hf.st (by
        rw [wls_s, if_pos b]
        exact hr.snoc c)
      rw [el] at IH
      exact IH
theorem c_lw (hd : cd M0 0 T nt na) (h2 : T 2 = nI na) (hna : na < 7) (hmm : m < 2 ^ na) (hm : ∀ c, c < na → (bt m c = true ↔ T (29 + 7 * c + 3) = nI 20)) (hQ : ∀ M', fk 27 M0 M' → rwl 27 M' (wls na m ++ ols na m) → Q (nI (wls na m).length) M') : wp_X2_listWaitingFirst 0 M0 Q :=
  ⟨na + 1, c_lw1 hd h2 hna hmm hm hQ na 0 M0 (by omega) fk.refl (fun t ht => absurd ht (Nat.not_lt_zero _))⟩
end O
-- the best, merged
theorem drop_c {l : List Nat} {i : Nat} (h : i < l.length) : l.drop i = l.getD i 0 :: l.drop (i + 1) := by
  rw [List.drop_eq_getElem_cons h, List.getD_eq_getElem?_getD, List.getElem?_eq_getElem h]
  rfl
theorem c_mrg {k o : List Nat} {na : Nat} {Q : gh_M → Prop} (hna : na ≤ 6) (hl : k.length + o.length = na) (h6 : ∀ x, x ∈ k ++ o → x < 6) :
    ∀ (r i j p : Nat) (M : gh_M), p + r = na → i + j = p → i ≤ k.length → j ≤ o.length → rwl 28 M (k ++ o) →
      (∀ M', fk 26 M M' → (∀ t, t < r → M' 26 0 (p + t) = nI ((mrg r (k.drop i) (o.drop j)).getD t 0)) → (∀ t, t < p → M' 26 0 t = M 26 0 t) → Q M') →
      wl_X2_mergeBest_8 Q (r + 1) (nI k.length) (nI na) (nI i) (nI (k.length + j)) (nI p) M
  | 0, i, j, p, M, hp, hij, hi, hj, hr, hQ => by
    have e : p = na := by omega
    subst e
    unfold wl_X2_mergeBest_8
    exact ⟨fun _ => hQ M fk.refl (fun t ht => absurd ht (Nat.not_lt_zero _)) (fun _ _ => rfl), fun g => absurd (Int32.le_refl _) g⟩
  | r + 1, i, j, p, M, hp, hij, hi, hj, hr, hQ => by
    have ih := c_mrg (Q := Q) hna hl h6 r
    have rk : ∀ i, i < k.length → M 28 0 i = nI (k.getD i 0) := fun i hi => by
      rw [hr i (by rw [List.length_append]; omega), getD_l hi]
    have ro : ∀ j, j < o.length → M 28 0 (k.length + j) = nI (o.getD j 0) := fun j hj => by
      rw [hr _ (by rw [List.length_append]; omega), getD_r]
    have stp : ∀ (x i' j' : Nat), i' + j' = p + 1 → i' ≤ k.length → j' ≤ o.length → mrg (r + 1) (k.drop i) (o.drop j) = x :: mrg r (k.drop i') (o.drop j') → wl_X2_mergeBest_8 Q (r + 1) (nI k.length) (nI na) (nI i') (nI (k.length + j')) (nI (p + 1)) (gh_st M 26 0 p (nI x)) := fun x i' j' q1 q2 q3 e => by
      refine ih i' j' (p + 1) _ (by omega) q1 q2 q3 (hr.e (zb_kr _ _ _ _ _ (by omega))) (fun M' f h1 h2 => hQ M' (fk.tr fk.refl.st f) (fun t ht => ?_) (fun t ht => ?_))
      · rw [e]
        cases t with
        | zero => rw [Nat.add_zero, h2 p (by omega), zb_s]; rfl
        | succ t => rw [show p + (t + 1) = p + 1 + t by omega, h1 t (by omega)]; rfl
      · rw [h2 t (by omega), zb_j _ _ _ _ (by omega)]
    have tk : i < k.length → mrg (r + 1) (k.drop i) (o.drop j) = k.getD i 0 :: mrg r (k.drop (i + 1)) (o.drop j) → wl_X2_mergeBest_8 Q (r + 1) (nI k.length) (nI na) (nI (i + 1)) (nI (k.length + j)) (nI (p + 1)) (gh_st M 26 0 p (M 28 0 i)) := fun q e => by
      rw [rk i q]
      exact stp _ (i + 1) j (by omega) (by omega) hj e
    have tj : j < o.length → mrg (r + 1) (k.drop i) (o.drop j) = o.getD j 0 :: mrg r (k.drop i) (o.drop (j + 1)) → wl_X2_mergeBest_8 Q (r + 1) (nI k.length) (nI na) (nI i) (nI (k.length + j + 1)) (nI (p + 1)) (gh_st M 26 0 p (M 28 0 (k.length + j))) := fun q e => by
      rw [ro j q]
      exact stp _ i (j + 1) (by omega) hi (by omega) e
    unfold wl_X2_mergeBest_8
    refine ⟨fun g => absurd g (nI_ge (by omega) (by omega)), fun _ => ⟨fun g => ?_, fun g => ⟨fun g2 => ?_, fun g2 => ?_⟩⟩⟩
    · have g := (nI_leI (by omega) (by omega)).mp g
      have q : i < k.length := by omega
      simp (disch := omega) only [nI_clamp, zb_in, true_and, forall_eq, nI_add]
      refine tk q ?_
      rw [List.drop_eq_nil_of_le (show o.length ≤ j by omega), drop_c q]
      rfl
    · have g : k.length + j < na := Nat.lt_of_not_le (fun e => g (nI_le e (by omega)))
      have g2 := (nI_leI (by omega) (by omega)).mp g2
      have q : j < o.length := by omega
      simp (disch := omega) only [nI_clamp, zb_in, true_and, forall_eq, nI_add]
      refine tj q ?_
      rw [List.drop_eq_nil_of_le g2, drop_c q]
      rfl
    · have g : k.length + j < na := Nat.lt_of_not_le (fun e => g (nI_le e (by omega)))
      have g2 : i < k.length := Nat.lt_of_not_le (fun e => g2 (nI_le e (by omega)))
      have q : j < o.length := by omega
      have u1 := h6 _ (List.mem_append_left _ (getD_mem g2))
      have u2 := h6 _ (List.mem_append_right _ (getD_mem q))
      have e : mrg (r + 1) (k.drop i) (o.drop j) = if Nat.blt (k.getD i 0) (o.getD j 0) = true then k.getD i 0 :: mrg r (k.drop (i + 1)) (o.drop j) else o.getD j 0 :: mrg r (k.drop i) (o.drop (j + 1)) := by
        rw [drop_c g2, drop_c q]
        rfl
      simp (disch := omega) only [nI_clamp, zb_in, true_and, forall_eq, nI_add]
      rw [rk i g2, ro j q] at *
      refine ⟨fun g3 => ?_, fun g3 => ?_⟩
      · have g3 := (nI_leI (by omega) (by omega)).mp g3
        refine tj q ?_
        rw [e, if_neg (fun b => by have := (Nat.blt_eq ..).mp b; omega)]
      · have g3 : k.getD i 0 < o.getD j 0 := Nat.lt_of_not_le (fun e => g3 (nI_le e (by omega)))
        refine tk g2 ?_
        rw [e, if_pos ((Nat.blt_eq ..).mpr g3)]
theorem c_merge {k o : List Nat} {na : Nat} {Q : gh_M → Prop} {M : gh_M} (hna : na ≤ 6) (hl : k.length + o.length = na) (h6 : ∀ x, x ∈ k ++ o → x < 6) (hr : rwl 28 M (k ++ o)) (hQ : ∀ M', fk 26 M M' → (∀ t, t < na → M' 26 0 t = nI ((mrg na k o).getD t 0)) → Q M') : wp_X2_mergeBest (nI k.length) (nI na) M Q :=
  ⟨na + 1, c_mrg hna hl h6 na 0 0 0 M (by omega) (by omega) (by omega) (by omega) hr (fun M' f h1 _ => hQ M' f (fun t ht => by
    have := h1 t ht
    rw [Nat.zero_add] at this
    exact this))⟩
-- the worth of an order, as numbers
theorem bx_nat {f : Nat → Int32} {b : Nat} : ∀ n, (∀ c, c < n → ∃ s, s ≤ b ∧ f c = nI s) → ∃ s, s ≤ b * n ∧ bx_sum f n = nI s
  | 0, _ => ⟨0, by omega, rfl⟩
  | n + 1, h => by
    obtain ⟨s, h1, h2⟩ := bx_nat n (fun c hc => h c (by omega))
    obtain ⟨u, h3, h4⟩ := h n (by omega)
    have e : bx_sum f (n + 1) = bx_sum f n + f n := rfl
    refine ⟨s + u, by rw [Nat.mul_succ]; omega, ?_⟩
    rw [e, h2, h4, nI_add]
def ovT (X : TR) (n : Nat) (l : List Nat) : TT := sp_run X.2.2 (pf l) X.2.1.1 X.2.1.2.1 X.2.1.2.2 n X.1
theorem ov_nat {X : TR} {n : Nat} {l : List Nat} (hk : trOK X) (hn : n ≤ 50) : ∃ s b, s ≤ 126000 ∧ b ≤ 6 ∧ bx_sum (fun c => ovT X n l (29 + 7 * c + 5)) X.2.1.2.2 = nI s ∧ fb_ct (sp_th (ovT X n l) 3) X.2.1.2.2 = b ∧ ov X n l = nI (10 * s + b) := by
  obtain ⟨-, -, -, b0, b1, b2, -⟩ := hk.hd
  obtain ⟨k, hk1, hk2, hk3⟩ := hk.2.2.2.2
  have tr := tbk.run (pc := X.2.2) (rk := pf l) b1 b2 b0 n k X.1 ⟨hk2, hk3⟩
  obtain ⟨s, h1, h2⟩ := bx_nat (f := fun c => ovT X n l (29 + 7 * c + 5)) (b := 21000) X.2.1.2.2 (fun c hc => by
    obtain ⟨s, q1, q2⟩ := tr.2 c hc
    exact ⟨s, by omega, q2⟩)
  have h3 := fb_ct_le (sp_th (ovT X n l) 3) X.2.1.2.2
  refine ⟨s, _, by omega, by omega, h2, rfl, ?_⟩
  have e : ov X n l = nI 10 * bx_sum (fun c => ovT X n l (29 + 7 * c + 5)) X.2.1.2.2 + nI (fb_ct (sp_th (ovT X n l) 3) X.2.1.2.2) := rfl
  rw [e, h2, pk_mul, nI_add]
/-- ranks put elsewhere -/
theorem cz.rk {M M' : gh_M} {t nc nt na : Nat} {T : TT} (h : cz M t nc nt na (M 19 t) M T) (e : ∀ a, a ≠ 19 → M' a t = M a t) : cz M' t nc nt na (M' 19 t) M' T := by
  obtain ⟨I, ⟨⟨s0, s1, s2, s3, hk, hc⟩, hR, hI0, hK0, hb, hf⟩, hI, hw⟩ := h
  refine ⟨I, ⟨⟨?_, ?_, ?_, ?_, fun i hi f hf2 => ?_, fun c hc2 f hf2 => ?_⟩, ?_, fun i => ?_, fun i => rfl, ⟨fun i hi => ?_, fun i hi => ?_⟩, ft.refl⟩, hI, hw⟩
  · rw [e 6 (by omega)]; exact s0
  · rw [e 6 (by omega)]; exact s1
  · rw [e 6 (by omega)]; exact s2
  · rw [e 6 (by omega)]; exact s3
  · rw [e _ (by omega)]; exact hk i hi f hf2
  · rw [e _ (by omega)]; exact hc c hc2 f hf2
  · rw [e 6 (by omega)]; exact hR
  · rw [e 20 (by omega)]; exact hI0 i
  · rw [e 10 (by omega)]; exact hb.1 i hi
  · rw [e 18 (by omega)]; exact hb.2 i hi
theorem c_try {M : gh_M} {X : TR} {N : Nat} {l : List Nat} (hk : trOK X) (hz : ctr M 0 X) (hN : N ≤ 50) (hl : l.Perm (List.range X.2.1.2.2)) (hr : rwl 27 M l) {s b : Nat} (hs : bx_sum (fun c => ovT X N l (29 + 7 * c + 5)) X.2.1.2.2 = nI s) (hb : fb_ct (sp_th (ovT X N l) 3) X.2.1.2.2 = b) {K : Int32 → Int32 → gh_M → Prop} (hK : ∀ M', ft 28 M M' → bo M' 28 → K (nI s) (nI b) M') :
    wp_X5_copyFrom 28 0 M (fun M13 => ((¬ (nI 0) < 0 ∧ ¬ (nI 0) < 0 ∧ ¬ (nI 6) < 0 ∧ (nI 0).toNatClampNeg + (nI 6).toNatClampNeg ≤ 6 ∧ (nI 0).toNatClampNeg + (nI 6).toNatClampNeg ≤ 6) ∧ ∀ M15, M15 = (gh_row M13 19 28 (va_cpy (M13 27 0) (M13 19 28) (nI 0).toNatClampNeg (nI 0).toNatClampNeg (nI 6).toNatClampNeg)) → wp_X5_tickOnFor 28 (nI N) M15 (fun M17 => wp_X5_allScreams 28 M17 (fun r18 M19 => wp_X5_bitsOut 28 M19 (fun r20 M21 => wp_J6_bitCount_0f7a4 r20 M21 (fun r22 M23 => K r18 r22 M23)))))) := by
  obtain ⟨-, -, -, b0, b1, b2, -⟩ := hk.hd
  have ll : l.length = X.2.1.2.2 := by rw [hl.length_eq, List.length_range]
  refine c_copy (by omega) hz.1.bo (fun M2 h2 => ⟨by decide, ?_⟩)
  have z2 := ctr.cp h2 hk hz
  rw [show (nI 0).toNatClampNeg = 0 by decide, show (nI 6).toNatClampNeg = 6 by decide]
  rintro M3 e3
  have f3 : ∀ a c, ¬ (a = 19 ∧ c = 28) → M3 a c = M2 a c := fun a c q => funext fun i => by rw [e3, zb_row, if_neg q]
  have z3 := z2.1.rk (M' := M3) (fun a q => f3 a 28 (by omega))
  have g3 : ft 28 M M3 := fun a c q => by rw [f3 a c (by omega)]; exact h2.ft a c q
  have rk3 : ∀ k, k < X.2.1.2.2 → M3 19 28 k = nI (pf l k) ∧ pf l k < X.2.1.2.2 := fun k q => by
    refine ⟨?_, List.mem_range.mp (hl.mem_iff.mp (getD_mem (by omega)))⟩
    rw [e3, zb_row, if_pos ⟨rfl, rfl⟩, pk_cpy_in (by omega) (by omega), Nat.sub_zero, Nat.zero_add, h2.ft 27 0 (by omega)]
    exact hr k (by omega)
  refine c_for (M0 := M3) (pc := X.2.2) (rk := pf l) (by omega) rk3 (by have := hk.2.1; omega) hk.hd z3 (fun M4 T4 z4 e4 => ?_)
  have hd := z4.cd
  have kp := sp_hd.kp hk.hd (sp_run_kp (pc := X.2.2) (rk := pf l) (nc := X.2.1.1) b2 b1 (fun k q => Nat.lt_of_lt_of_le (rk3 k q).2 b2) N X.1)
  have t2 : T4 2 = nI X.2.1.2.2 := (e4 2 (by omega)).trans kp.2.2.1
  refine c_scr hd t2 b2 (c_out hd t2 b2 ?_)
  rw [scr_e e4, sbit_cong (fun k _ => sp_th_e e4)]
  obtain ⟨m, m1, m2, m3⟩ := sbit_nat (sp_th (sp_run X.2.2 (pf l) X.2.1.1 X.2.1.2.1 X.2.1.2.2 N X.1) 3) X.2.1.2.2 b2
  rw [m2]
  have m64 : m < 64 := Nat.lt_of_lt_of_le m1 (Nat.le_trans (Nat.pow_le_pow_right (by omega) b2) (by decide))
  refine c_bits m64 ?_
  rw [m3]
  have hb' : fb_ct (sp_th (sp_run X.2.2 (pf l) X.2.1.1 X.2.1.2.1 X.2.1.2.2 N X.1) 3) X.2.1.2.2 = b := hb
  have hs' : bx_sum (fun c => sp_run X.2.2 (pf l) X.2.1.1 X.2.1.2.1 X.2.1.2.2 N X.1 (29 + 7 * c + 5)) X.2.1.2.2 = nI s := hs
  rw [hb', hs']
  exact hK M4 (g3.tr z4.ft) z4.bo
