-- ORDER: both searches, the call
def fo (M M' : gh_M) : Prop := (∀ a b, ¬ (b = 28 ∧ 6 ≤ a ∧ a ≤ 20) → ¬ (a = 24 ∨ a = 26 ∨ a = 27 ∨ a = 28) → M' a b = M a b) ∧ M' 24 0 6 = M 24 0 6 ∧ bo M' 28
theorem fo.up {A B C : gh_M} (h : fo A B) (g : ∀ a b, ¬ (a = 24 ∨ a = 26 ∨ a = 27 ∨ a = 28) → C a b = B a b) (g6 : C 24 0 6 = B 24 0 6) : fo A C :=
  ⟨fun a b q r => (g a b r).trans (h.1 a b q r), g6.trans h.2.1, by
    have := h.2.2
    unfold bo at this ⊢
    rw [g 10 28 (by omega), g 18 28 (by omega)]
    exact this⟩
/-- the best so far is the order k of those that wait, with s howls and b out -/
def br1 (na m : Nat) (M : gh_M) (o : Int32) (a : Int32 × List Nat) : Prop := ∃ s b k, s ≤ 126000 ∧ b ≤ 6 ∧ M 24 0 7 = nI s ∧ o = nI b ∧ k ∈ pmF 720 (wls na m) ∧ a = (nI (10 * s + b), mrg na k (ols na m)) ∧ rwl 28 M (k ++ ols na m)
def br0 (M : gh_M) (o : Int32) (a : Int32 × List Nat) : Prop := M 24 0 7 = -1 ∧ o = -1 ∧ a = (-1, [])
theorem br1.mv {na m : Nat} {M M' : gh_M} {o : Int32} {a : Int32 × List Nat} (h : br1 na m M o a) (e : M' 24 0 7 = M 24 0 7) (e2 : M' 28 0 = M 28 0) : br1 na m M' o a := by
  obtain ⟨s, b, k, h1, h2, h3, h4, h5, h6, h7⟩ := h
  exact ⟨s, b, k, h1, h2, e.trans h3, h4, h5, h6, h7.e e2⟩
section CF
variable {M0 : gh_M} {X : TR} {N m : Nat} {Q : gh_M → Prop} {A : Int32 × List Nat}
theorem c_fin (hk : trOK X) (hz : ctr M0 0 X) (hlt : m < 2 ^ X.2.1.2.2)
    (hQ : ∀ M', fo M0 M' → (∃ s b, s ≤ 126000 ∧ b ≤ 6 ∧ M' 24 0 7 = nI s ∧ A.1 = nI (10 * s + b)) → (∀ t, t < X.2.1.2.2 → M' 26 0 t = nI (A.2.getD t 0)) → Q M')
    {M : gh_M} {o : Int32} (hf : fo M0 M) (hb : br1 X.2.1.2.2 m M o A) : wp_X2_mergeBest (nI (wls X.2.1.2.2 m).length) (M 6 0 2) M (fun M8 => Q M8) := by
  have b2 := hk.hd.2.2.2.2.2.1
  obtain ⟨s, b, k, h1, h2, h3, h4, h5, h6, h7⟩ := hb
  have ok := kOK.all k h5
  have wo := wo_len X.2.1.2.2 (by omega) m hlt
  rw [← ok.1, hf.1 6 0 (by omega) (by omega), hz.1.cd.2.2.1, hk.hd.2.2.1]
  refine c_merge b2 (by rw [ok.1]; exact wo) (fun x hx => ?_) h7 (fun M' f e => hQ M' (hf.up (fun a b q => f a b (by omega)) (by rw [f 24 0 (by omega)])) ⟨s, b, h1, h2, by rw [f 24 0 (by omega)]; exact h3, by rw [h6]⟩ (fun t ht => by rw [e t ht, h6]))
  rcases List.mem_append.mp hx with g | g
  · have := (wls_mem (ok.2 x g)).1; omega
  · have := (ols_mem g).1; omega
theorem c_fo_l (hk : trOK X) (hz : ctr M0 0 X) (hN : N ≤ 50) (hm : ∀ c, c < X.2.1.2.2 → (bt m c = true ↔ X.1 (29 + 7 * c + 3) = nI 20)) (hlt : m < 2 ^ X.2.1.2.2)
    (hQ : ∀ M', fo M0 M' → (∃ s b, s ≤ 126000 ∧ b ≤ 6 ∧ M' 24 0 7 = nI s ∧ A.1 = nI (10 * s + b)) → (∀ t, t < X.2.1.2.2 → M' 26 0 t = nI (A.2.getD t 0)) → Q M') :
    ∀ (f : Nat) (k : List Nat) (M : gh_M) (o : Int32) (a : Int32 × List Nat), f ≤ 720 → fo M0 M → (∀ z, z ∈ pmF f k → z ∈ pmF 720 (wls X.2.1.2.2 m)) → k.length = (wls X.2.1.2.2 m).length → rwl 27 M (k ++ ols X.2.1.2.2 m) → (br1 X.2.1.2.2 m M o a ∨ (0 < f ∧ br0 M o a)) → bstF (ov X N) ((pmF f k).map (fun k => mrg X.2.1.2.2 k (ols X.2.1.2.2 m))) a = A → wl_X2_findOrder_34 0 Q (f + 1) (nI N) o (nI (wls X.2.1.2.2 m).length) (nI 1) (nI (720 - f)) M
  | 0, k, M, o, a, _, hf, hK, hkl, hr, hb, hA => by
    have hb : br1 X.2.1.2.2 m M o a := hb.resolve_right (fun g => absurd g.1 (Nat.lt_irrefl _))
    have e : a = A := hA
    subst e
    unfold wl_X2_findOrder_34
    exact ⟨fun _ => c_fin hk hz hlt hQ hf hb, fun g => absurd (Int32.le_refl _) g⟩
  | f + 1, k, M, o, a, hf7, hf, hK, hkl, hr, hb, hA => by
    have b2 := hk.hd.2.2.2.2.2.1
    have hkK : k ∈ pmF 720 (wls X.2.1.2.2 m) := hK k (List.mem_cons_self ..)
    have wo := wo_len X.2.1.2.2 (by omega) m hlt
    obtain ⟨p1, p2, p3⟩ := k_perm (by omega) hlt hkK
    have ok := kOK.all k hkK
    have hzM : ctr M 0 X := hz.mv (fun a q1 q2 => hf.1 a 0 (by omega) (by omega))
    obtain ⟨s, b, h1, h2, h3, h4, h5⟩ := ov_nat (X := X) (n := N) (l := k ++ ols X.2.1.2.2 m) hk hN
    have hov : ov X N (mrg X.2.1.2.2 k (ols X.2.1.2.2 m)) = nI (10 * s + b) := by rw [ov_mrg hk hm hlt hkK, h5]
    have hA' : bstF (ov X N) ((match nx k with | none => [] | some l' => pmF f l').map (fun k => mrg X.2.1.2.2 k (ols X.2.1.2.2 m))) (if a.1 < nI (10 * s + b) then (nI (10 * s + b), mrg X.2.1.2.2 k (ols X.2.1.2.2 m)) else a) = A := by
      rw [← hov]
      exact hA
    have nxt : ∀ (M1 : gh_M) (o' : Int32) (a' : Int32 × List Nat), fo M0 M1 → rwl 27 M1 (k ++ ols X.2.1.2.2 m) → br1 X.2.1.2.2 m M1 o' a' → bstF (ov X N) ((match nx k with | none => [] | some l' => pmF f l').map (fun k => mrg X.2.1.2.2 k (ols X.2.1.2.2 m))) a' = A → wp_X2_nextOrder (nI (wls X.2.1.2.2 m).length) M1 (fun r M29 => ∀ y6, y6 = nI (720 - (f + 1)) + nI 1 → wl_X2_findOrder_34 0 Q (f + 1) (nI N) o' (nI (wls X.2.1.2.2 m).length) r y6 M29) := by
      intro M1 o' a' hf1 hr1 hb1 hA1
      refine cn_next (l := k) (by omega) ok.1 (fun x hx => by have := (wls_mem (ok.2 x hx)).1; omega) (fun t ht => by rw [hr1 t (by rw [List.length_append]; omega), getD_l (by omega)]) (fun e => ?_) (fun l' M' e ff e1 e2 => ?_)
      · rw [e] at hA1
        have e : a' = A := hA1
        subst e
        rintro _ rfl
        unfold wl_X2_findOrder_34
        exact ⟨fun _ => c_fin hk hz hlt hQ hf1 hb1, fun _ => ⟨fun _ => c_fin hk hz hlt hQ hf1 hb1, fun g => absurd rfl g⟩⟩
      · rw [e] at hA1
        rintro _ rfl
        rw [nI_add, show 720 - (f + 1) + 1 = 720 - f by omega]
        have lp : l'.length = (wls X.2.1.2.2 m).length := (nx_ok e).1.trans hkl
        refine c_fo_l hk hz hN hm hlt hQ f l' M' o' a' (by omega) (hf1.up (fun a b q => ff a b (by omega)) (by rw [ff 24 0 (by omega)])) (fun z hz => hK z ?_) lp (fun t ht => ?_) (Or.inl (hb1.mv (by rw [ff 24 0 (by omega)]) (ff 28 0 (by omega)))) hA1
        · unfold pmF
          rw [e]
          exact List.mem_cons_of_mem _ hz
        · by_cases q : t < l'.length
          · rw [getD_l q]; exact e1 t (by omega)
          · obtain ⟨d, rfl⟩ : ∃ d, t = l'.length + d := ⟨t - l'.length, by omega⟩
            rw [getD_r, e2 _ (by omega), hr1 _ (by rw [List.length_append] at ht ⊢; omega), lp, ← ok.1, getD_r]
    unfold wl_X2_findOrder_34
    refine ⟨fun g => absurd g (nI_ge (by omega) (by omega)), fun _ => ⟨fun g => absurd g (by decide), fun _ => ?_⟩⟩
    refine c_try hk hzM hN p3 hr h3 h4 (fun M1 f1 bo1 => ?_)
    have fo1 : fo M0 M1 := ⟨fun a b q r => (f1 a b q).trans (hf.1 a b q r), by rw [f1 24 0 (by omega)]; exact hf.2.1, bo1⟩
    have r1 : rwl 27 M1 (k ++ ols X.2.1.2.2 m) := hr.e (f1 27 0 (by omega))
    have upd : a.1 < nI (10 * s + b) → ∀ M25, M25 = gh_st M1 24 0 7 (nI s) → ((¬ (nI 0) < 0 ∧ ¬ (nI 0) < 0 ∧ ¬ (nI 6) < 0 ∧ (nI 0).toNatClampNeg + (nI 6).toNatClampNeg ≤ 6 ∧ (nI 0).toNatClampNeg + (nI 6).toNatClampNeg ≤ 6) ∧ ∀ M27, M27 = (gh_row M25 28 0 (va_cpy (M25 27 0) (M25 28 0) (nI 0).toNatClampNeg (nI 0).toNatClampNeg (nI 6).toNatClampNeg)) → wp_X2_nextOrder (nI (wls X.2.1.2.2 m).length) M27 (fun r M29 => ∀ y6, y6 = nI (720 - (f + 1)) + nI 1 → wl_X2_findOrder_34 0 Q (f + 1) (nI N) (nI b) (nI (wls X.2.1.2.2 m).length) r y6 M29)) := by
      intro hlt2 M25 e25
      refine ⟨by decide, ?_⟩
      rw [show (nI 0).toNatClampNeg = 0 by decide, show (nI 6).toNatClampNeg = 6 by decide]
      intro M27 e27
      rw [if_pos hlt2] at hA'
      have g1 : ∀ a b, ¬ (a = 24 ∨ a = 28) → M27 a b = M1 a b := fun a b q => funext fun i => by
        rw [e27, zb_row, if_neg (by omega), e25, zb_k _ _ _ _ _ _ (by omega)]
      have g2 : ∀ i, M27 24 0 i = if i = 7 then nI s else M1 24 0 i := fun i => by
        rw [e27, zb_row, if_neg (by omega), e25]
        by_cases q : i = 7
        · subst q; rw [zb_s, if_pos rfl]
        · rw [zb_j _ _ _ _ q, if_neg q]
      refine nxt M27 (nI b) _ (fo1.up (fun a b q => g1 a b (by omega)) (by rw [g2, if_neg (by omega)])) (r1.e (g1 27 0 (by omega))) ⟨s, b, k, h1, h2, by rw [g2, if_pos rfl], rfl, hkK, rfl, fun t ht => ?_⟩ hA'
      have tl : t < 6 := by rw [List.length_append] at ht; omega
      rw [e27, zb_row, if_pos ⟨rfl, rfl⟩, pk_cpy_in (by omega) (by omega), Nat.zero_add, Nat.sub_zero, e25, zb_k _ _ _ _ _ _ (by omega)]
      exact r1 t ht
    have kp : br1 X.2.1.2.2 m M o a → ¬ a.1 < nI (10 * s + b) → wp_X2_nextOrder (nI (wls X.2.1.2.2 m).length) M1 (fun r M29 => ∀ y6, y6 = nI (720 - (f + 1)) + nI 1 → wl_X2_findOrder_34 0 Q (f + 1) (nI N) o (nI (wls X.2.1.2.2 m).length) r y6 M29) := by
      intro hb1 hge
      rw [if_neg hge] at hA'
      exact nxt M1 o a fo1 r1 (hb1.mv (by rw [f1 24 0 (by omega)]) (f1 28 0 (by omega))) hA'
    rw [f1 24 0 (by omega)]
    rcases hb with hb | ⟨-, hb7, hbo, hba⟩
    · have hb1 := hb
      obtain ⟨s', b', k', q1, q2, q3, q4, q5, q6, q7⟩ := hb
      have a1 : a.1 = nI (10 * s' + b') := by rw [q6]
      rw [a1] at upd kp
      rw [q3]
      refine ⟨fun g => upd ?_, fun g => ⟨fun g2 => kp hb1 ?_, fun g2 => ⟨fun g3 => kp hb1 ?_, fun g3 => upd ?_⟩⟩⟩
      · have := (nI_ltI (by omega) (by omega)).mp g
        exact nI_lt (by omega) (by omega)
      · have g' : s ≤ s' := Nat.le_of_not_lt (fun e => g (nI_lt e (by omega)))
        have g2' : s ≠ s' := fun e => g2 (by rw [e])
        exact nI_nlt (by omega) (by omega)
      · have g2' := zb_nI_inj g2 (by omega) (by omega)
        rw [q4] at g3
        have := (nI_leI (by omega) (by omega)).mp g3
        exact nI_nlt (by omega) (by omega)
      · have g2' := zb_nI_inj g2 (by omega) (by omega)
        have : b' < b := Nat.lt_of_not_le (fun e => g3 (by rw [q4]; exact nI_le e (by omega)))
        exact nI_lt (by omega) (by omega)
    · have lt1 : ∀ x, x < 2 ^ 31 → (-1 : Int32) < nI x := fun x hx => Int32.lt_of_lt_of_le (by decide) (nI_pos' hx)
      rw [hb7]
      refine ⟨fun _ => upd ?_, fun g => absurd (lt1 s (by omega)) g⟩
      rw [hba]
      exact lt1 _ (by omega)
end CF
theorem cs_ord {M M' : gh_M} {S : SS} (h : CS M S) (e : ∀ a b, ¬ (b = 28 ∧ 6 ≤ a ∧ a ≤ 20) → ¬ (a = 24 ∨ a = 26 ∨ a = 27 ∨ a = 28) → M' a b = M a b) (hb : bo M' 28) (ho : cOrd M' S.2.2.2.2.1) : CS M' S := by
  obtain ⟨h0, h1, h2, h3, h4, h5, h6, h7, h8, h9⟩ := h
  refine ⟨fun t ht => ?_, h1.mv (fun a b q => e a b (by omega) (by omega)), ?_, ?_, ?_, ?_, h6.mv (fun a q1 q2 => e a 0 (by omega) (by omega)), h7.mv (fun a t q1 q2 q3 q4 => e a t (by omega) (by omega)) (e 21 0 (by omega) (by omega)), h8.mv (fun a t q1 q2 q3 q4 => e a t (by omega) (by omega)), ho⟩
  · by_cases q : t = 28
    · subst q; exact hb
    · have := h0 t ht
      unfold bo at this ⊢
      rw [e 10 t (by omega) (by omega), e 18 t (by omega) (by omega)]
      exact this
  · unfold cTap at h2 ⊢
    rw [e 4 0 (by omega) (by omega), e 5 0 (by omega) (by omega)]
    exact h2
  · rw [e 0 0 (by omega) (by omega)]; exact h3
  · rw [e 0 0 (by omega) (by omega)]; exact h4
  · unfold cTrc at h5 ⊢
    rw [e 30 0 (by omega) (by omega), e 31 0 (by omega) (by omega)]
    exact h5
theorem c_fndO {M : gh_M} {S : SS} {X : TR} {N : Nat} {Q : gh_M → Prop} (hC : CS M S) (hX : S.2.2.2.2.1 = some X) (h1 : 1 ≤ N) (hN : N ≤ 50) (hQ : ∀ M', CS M' S → fR M M' → M' 24 0 7 = (ordS X N).1 / nI 10 → (∀ t, t < X.2.1.2.2 → M' 26 0 t = nI ((ordS X N).2.getD t 0)) → Q M') : wp_X2_findOrder 0 (nI N) M Q := by
  obtain ⟨hk, hz⟩ := hC.trn hX
  have b2 := hk.hd.2.2.2.2.2.1
  unfold wp_X2_findOrder
  refine ⟨fun g => ?_, fun g => ?_⟩
  · rintro M2 e2 M3 e3
    have f3 : ∀ a b, a ≠ 24 → M3 a b = M a b := fun a b q => by rw [e3, zb_kr _ _ _ _ _ q, e2, zb_kr _ _ _ _ _ q]
    have hz3 : ctr M3 0 X := hz.mv (fun a q1 q2 => f3 a 0 (by omega))
    have hm : ∀ c, c < X.2.1.2.2 → (bt (mkL (fun c => decide (X.1 (29 + 7 * c + 3) = nI 20)) 0 X.2.1.2.2) c = true ↔ X.1 (29 + 7 * c + 3) = nI 20) := fun c hc => by
      rw [mkL_bt _ _ _ hc, Nat.zero_add]
      exact decide_eq_true_iff
    have hlt := mkL_lt (P := fun c => decide (X.1 (29 + 7 * c + 3) = nI 20)) X.2.1.2.2 0
    generalize mkL (fun c => decide (X.1 (29 + 7 * c + 3) = nI 20)) 0 X.2.1.2.2 = m at hm hlt
    refine c_lw hz3.1.cd hk.hd.2.2.1 (by omega) hlt hm (fun M4 f4 r4 => ⟨721, ?_⟩)
    have hbo : bo M3 28 := by
      have := hC.1 28 (by omega)
      unfold bo at this ⊢
      rw [f3 10 28 (by omega), f3 18 28 (by omega)]
      exact this
    have fo4 : fo M3 M4 := (show fo M3 M3 from ⟨fun _ _ _ _ => rfl, rfl, hbo⟩).up (fun a b q => f4 a b (by omega)) (by rw [f4 24 0 (by omega)])
    refine c_fo_l (M0 := M3) (m := m) (A := ordS X N) hk hz3 hN hm hlt (fun M' hf hv he => ?_) 720 (wls X.2.1.2.2 m) M4 (-1) (-1, []) (Nat.le_refl _) fo4 (fun z hz => hz) rfl r4 (Or.inr ⟨by omega, ?_, rfl, rfl⟩) (ord_K hk hm hlt).symm
    · obtain ⟨s, b, v1, v2, v3, v4⟩ := hv
      have e7 : M' 24 0 7 = (ordS X N).1 / nI 10 := by
        rw [v3, v4, pk_div (by omega) (by omega) (by omega), show (10 * s + b) / 10 = s by omega]
      have e6 : M' 24 0 6 = nI N := by rw [hf.2.1, e3, zb_j _ _ _ _ (by omega), e2, zb_s]
      have fA : ∀ a b, ¬ (b = 28 ∧ 6 ≤ a ∧ a ≤ 20) → ¬ (a = 24 ∨ a = 26 ∨ a = 27 ∨ a = 28) → M' a b = M a b := fun a b q r => (hf.1 a b q r).trans (f3 a b (by omega))
      refine hQ M' (cs_ord hC fA hf.2.2 (Or.inr ⟨X, N, hX, h1, hN, e6, e7, he⟩)) (fun a b q => fA a b (by omega) (by omega)) e7 he
    · rw [f4 24 0 (by omega), e3, zb_s]
  · rcases hC.2.2.2.2.2.2.2.2.2 with h | ⟨X', n, h2, h3, h4, h5, h6, h7⟩
    · rw [h] at g
      have := zb_nI_inj g (by omega) (by omega)
      omega
    · rw [hX] at h2
      injection h2 with h2
      subst h2
      rw [h5] at g
      have := zb_nI_inj g (by omega) (by omega)
      subst this
      exact hQ M hC fR.refl h6 h7
-- the reference
def endF : Nat → List Nat → Bool
  | 0, _ => false
  | f + 1, l => match nx l with
    | none => true
    | some l' => endF f l'
theorem end_ok : ∀ na, na < 7 → endF 720 (List.range na) = true := by decide +kernel
theorem fk.fs35 {M M' : gh_M} (h : fk 35 M M') : fs M M' := fun a b i _ _ q => by rw [h a b (by omega)]
theorem fk.fs42 {M M' : gh_M} (h : fk 42 M M') : fs M M' := fun a b i _ _ q => by rw [h a b (by omega)]
section RO
variable {M : gh_M} {S : SS} {X : TR} {N : Nat} {l : List Nat}
theorem r_val (hR : RS M S) (hX : S.2.2.2.2.1 = some X) (hk : trOK X) (hN : N ≤ 50) (hl : l.Perm (List.range X.2.1.2.2)) (hr : rwl 42 M l) {Q : Int32 → gh_M → Prop} (hQ : ∀ M', fs M M' → M' 42 0 = M 42 0 → M' 35 0 = M 35 0 → Q (ov X N l) M') : wp_X7_valueOfOrder (nI N) M Q := by
  obtain ⟨k0, k1, k2, b0, b1, b2, k3⟩ := hk.hd
  have ll : l.length = X.2.1.2.2 := by rw [hl.length_eq, List.length_range]
  have hrr := hR.trn hX
  unfold wp_X7_valueOfOrder wp_X7_beginTry
  refine r_copyRow (x := 0) (y := 1917) (by omega) (by omega) (by omega) (fun M1 h1 h2 => ?_)
  refine r_rank (fun M2 h3 h4 => ?_)
  unfold wp_X7_noHowls
  rintro _ rfl
  refine ⟨7, r_noH_l (fun M3 h5 h6 => ?_) 6 0 _ (by omega) (fun i hi => by omega) (fun _ _ _ _ => rfl)⟩
  have g3 : ∀ a b i, ¬ (a = 33 ∧ b = 0 ∧ 1917 ≤ i ∧ i < 1988) → a ≠ 34 → a ≠ 36 → ¬ (a = 32 ∧ b = 0 ∧ i = 5) → M3 a b i = M a b i := fun a b i q1 q2 q3 q4 => by
    rw [h6 a b i (by omega), zb_st, if_neg (by omega), h4 a b i (by omega), h2 a b i (by omega)]
  have lp : ∀ (r i : Nat) (M4 : gh_M), i + r = 6 → fk 34 M3 M4 → (∀ t, t < i → M4 34 0 t = M3 42 0 t) → (∀ M5, fk 34 M3 M5 → (∀ t, t < 6 → M5 34 0 t = M3 42 0 t) → wp_X7_goOn (nI N) M5 (fun M5 => wp_X7_sumOf (nI 1917) (nI 5) M5 (fun r6 M7 => wp_X7_carsThat (nI 1917) (nI 3) M7 (fun r8 M9 => wp_X7_bits r8 M9 (fun r10 M11 => Q (((nI 10) * r6) + r10) M11))))) → wl_X7_valueOfOrder_6 Q (r + 1) (nI N) (nI i) M4 := by
    intro r
    induction r with
    | zero =>
      intro i M4 hi f4 e4 hF
      have : i = 6 := by omega
      subst this
      unfold wl_X7_valueOfOrder_6
      exact ⟨fun _ => hF M4 f4 e4, fun g => absurd (Int32.le_refl _) g⟩
    | succ r ih =>
      intro i M4 hi f4 e4 hF
      unfold wl_X7_valueOfOrder_6
      refine ⟨fun g => absurd g (nI_ge (by omega) (by omega)), fun _ => ?_⟩
      simp (disch := omega) only [nI_clamp, zb_in, true_and, forall_eq, nI_add]
      refine ih (i + 1) _ (by omega) f4.st (fun t ht => ?_) hF
      by_cases q : t = i
      · subst q; rw [zb_s, f4 42 0 (by omega)]
      · rw [zb_j _ _ _ _ q]; exact e4 t (by omega)
  refine ⟨7, lp 6 0 M3 (by omega) fk.refl (fun t ht => absurd ht (Nat.not_lt_zero _)) (fun M5 f5 e5 => ?_)⟩
  have td : tried M5 X.2.1.2.2 (pf l) (S0X X) (h0X X) X.1 := by
    refine ⟨fun i hi => ?_, ⟨fun c hc => ?_, ?_⟩, fun k hk => ⟨?_, List.mem_range.mp (hl.mem_iff.mp (getD_mem (by omega)))⟩⟩
    · rw [f5 33 0 (by omega), h6 33 0 _ (by omega), zb_k _ _ _ _ _ _ (by omega), h4 33 0 _ (by omega), h1 i hi]
      exact hrr i hi
    · rw [f5 36 0 (by omega), h5 c hc]
      exact (Int32.sub_self _).symm
    · rw [f5 32 0 (by omega), h6 32 0 5 (by omega), zb_s]
      exact (Int32.add_left_neg _).symm
    · rw [e5 k (by omega), g3 42 0 k (by omega) (by omega) (by omega) (by omega)]
      exact hr k (by omega)
  refine r_goOn (pc := X.2.2) (nt := X.2.1.2.1) (nc := X.2.1.1) (by omega) ⟨k0, k1, k2, b0, b1, b2, k3⟩ td (fun M6 t6 f6 g6 => ?_)
  have kp := sp_hd.kp ⟨k0, k1, k2, b0, b1, b2, k3⟩ (sp_run_kp (pc := X.2.2) (rk := pf l) (nc := X.2.1.1) b2 b1 (fun k q => Nat.lt_of_lt_of_le (td.2.2 k q).2 b2) N X.1)
  refine r_sumOf (x := 1917) (f := 5) (by omega) t6.1 kp.2.2.1 b2 (by omega) ?_
  refine r_that (x := 1917) (how := 3) (by omega) t6.1 kp.2.2.1 b2 (by omega) ?_
  obtain ⟨m, m1, m2, m3⟩ := sbit_nat (sp_th (sp_run X.2.2 (pf l) X.2.1.1 X.2.1.2.1 X.2.1.2.2 N X.1) 3) X.2.1.2.2 b2
  rw [m2]
  have m64 : m < 64 := Nat.lt_of_lt_of_le m1 (Nat.le_trans (Nat.pow_le_pow_right (by omega) b2) (by decide))
  refine r_bits m64 ?_
  rw [m3]
  refine hQ M6 (fun a b i q1 q2 q3 => ?_) (funext fun i => ?_) (funext fun i => ?_)
  · rw [g6 a b i (by omega) (by omega) (by omega), f5 a b (by omega)]
    exact g3 a b i (by omega) (by omega) (by omega) (by omega)
  · rw [g6 42 0 i (by omega) (by omega) (by omega), f5 42 0 (by omega)]
    exact g3 42 0 i (by omega) (by omega) (by omega) (by omega)
  · rw [g6 35 0 i (by omega) (by omega) (by omega), f5 35 0 (by omega)]
    exact g3 35 0 i (by omega) (by omega) (by omega) (by omega)
end RO
theorem r_cp35 {M0 : gh_M} {x1 x2 x3 : Int32} {Q : Int32 → gh_M → Prop} {K : Int32 → Int32 → Int32 → Int32 → gh_M → Prop} (hF : ∀ M', fk 35 M0 M' → (∀ t, t < 6 → M' 35 0 t = M0 42 0 t) → (vp_in (nI 2) 1988 ∧ wp_X7_nextOrder (M' 33 0 (nI 2).toNatClampNeg) M' (fun r23 M24 => K x1 x2 x3 r23 M24))) :
    ∀ (r i : Nat) (M : gh_M), i + r = 6 → fk 35 M0 M → (∀ t, t < i → M 35 0 t = M0 42 0 t) → wl_X7_order_78 Q K (r + 1) x1 x2 x3 (nI i) M
  | 0, i, M, hi, hf, he => by
    have : i = 6 := by omega
    subst this
    unfold wl_X7_order_78
    exact ⟨fun _ => hF M hf he, fun g => absurd (Int32.le_refl _) g⟩
  | r + 1, i, M, hi, hf, he => by
    unfold wl_X7_order_78
    refine ⟨fun g => absurd g (nI_ge (by omega) (by omega)), fun _ => ?_⟩
    simp (disch := omega) only [nI_clamp, zb_in, true_and, forall_eq, nI_add]
    refine r_cp35 hF r (i + 1) _ (by omega) hf.st (fun t ht => ?_)
    by_cases q : t = i
    · subst q; rw [zb_s, hf 42 0 (by omega)]
    · rw [zb_j _ _ _ _ q]; exact he t (by omega)
section RP
variable {M0 : gh_M} {S : SS} {X : TR} {N : Nat} {a1 : Int32} {Q : Int32 → gh_M → Prop} {A : Int32 × List Nat}
theorem r_ord_l (hR : RS M0 S) (hX : S.2.2.2.2.1 = some X) (hk : trOK X) (hN : N ≤ 50) (hn : S.2.2.2.2.2.1.1 ≤ 24)
    (hQ : ∀ M', fs M0 M' → (∀ t, t < X.2.1.2.2 → M' 35 0 t = nI (A.2.getD t 0)) → ((0 ≤ a1 → (vp_in (nI 2) 1988 ∧ (((M' 33 0 (nI 2).toNatClampNeg) ≤ a1 → Q (-1000000 : Int32) M') ∧ (¬ (M' 33 0 (nI 2).toNatClampNeg) ≤ a1 → (vp_in a1 6 ∧ Q (M' 35 0 a1.toNatClampNeg) M'))))) ∧ (¬ 0 ≤ a1 → (¬ (nI 10) = 0 ∧ Q (A.1 / (nI 10)) M')))) :
    ∀ (f : Nat) (l : List Nat) (M : gh_M) (a : Int32 × List Nat), endF f l = true → (∀ z, z ∈ pmF f l → z.Perm (List.range X.2.1.2.2)) → fs M0 M → rwl 42 M l → ((∀ t, t < X.2.1.2.2 → M 35 0 t = nI (a.2.getD t 0)) ∨ a.1 = -1) → bstF (ov X N) (pmF f l) a = A → wl_X7_order_54 Q (f + 1) (nI N) a1 a.1 (nI 1) M
  | 0, l, M, a, he, _, _, _, _, _ => by cases he
  | f + 1, l, M, a, he, hp, hf, hr, hb, hA => by
    have b2 := hk.hd.2.2.2.2.2.1
    have hlp := hp l (List.mem_cons_self ..)
    have ll : l.length = X.2.1.2.2 := by rw [hlp.length_eq, List.length_range]
    have hA' : bstF (ov X N) (match nx l with | none => [] | some l' => pmF f l') (if a.1 < ov X N l then (ov X N l, l) else a) = A := hA
    have he' : (match nx l with | none => true | some l' => endF f l') = true := he
    have nxt : ∀ (M1 : gh_M) (a' : Int32 × List Nat), fs M0 M1 → rwl 42 M1 l → (∀ t, t < X.2.1.2.2 → M1 35 0 t = nI (a'.2.getD t 0)) → bstF (ov X N) (match nx l with | none => [] | some l' => pmF f l') a' = A → (vp_in (nI 2) 1988 ∧ wp_X7_nextOrder (M1 33 0 (nI 2).toNatClampNeg) M1 (fun r M2 => wl_X7_order_54 Q (f + 1) (nI N) a1 a'.1 r M2)) := by
      intro M1 a' hf1 hr1 hb1 hA1
      refine ⟨vp_in_nI (by omega) (by omega), ?_⟩
      rw [nI_clamp (by omega), hf1 33 0 2 (by omega) (by omega) (by omega), (hR.trn hX).at0 (i := 2) (by omega) rfl, hk.hd.2.2.1]
      refine rn_next (l := l) b2 ll (fun x hx => by have := List.mem_range.mp (hlp.mem_iff.mp hx); omega) (fun t ht => hr1 t (by omega)) (fun e => ?_) (fun l' M' e ff e1 e2 => ?_)
      · rw [e] at hA1
        have e : a' = A := hA1
        subst e
        unfold wl_X7_order_54
        exact ⟨fun _ => hQ M1 hf1 hb1, fun g => absurd rfl g⟩
      · rw [e] at hA1 he'
        have ll' : l'.length = X.2.1.2.2 := (nx_ok e).1.trans ll
        refine r_ord_l hR hX hk hN hn hQ f l' M' a' he' (fun z hz => hp z ?_) (hf1.tr ff.fs42) (fun t ht => e1 t (by omega)) (Or.inl (fun t ht => by rw [ff 35 0 (by omega)]; exact hb1 t ht)) hA1
        unfold pmF
        rw [e]
        exact List.mem_cons_of_mem _ hz
    unfold wl_X7_order_54
    refine ⟨fun g => absurd g (by decide), fun _ => ?_⟩
    refine r_val (hR.fs hf hn) hX hk hN hlp hr (fun M1 f1 e42 e35 => ?_)
    have hf1 := hf.tr f1
    have hr1 : rwl 42 M1 l := hr.e e42
    obtain ⟨s, b, h1, h2, h3, h4, h5⟩ := ov_nat (X := X) (n := N) (l := l) hk hN
    refine ⟨fun g => ?_, fun g => ⟨7, ?_⟩⟩
    · rw [if_neg (Int32.not_lt.mpr g)] at hA'
      refine nxt M1 a hf1 hr1 ?_ hA'
      rcases hb with hb | hb
      · intro t ht
        rw [e35]
        exact hb t ht
      · rw [hb, h5] at g
        exact absurd (Int32.lt_of_lt_of_le (by decide) (nI_pos' (by omega))) (Int32.not_lt.mpr g)
    · rw [if_pos (Int32.not_le.mp g)] at hA'
      refine r_cp35 (M0 := M1) (fun M' f' e' => ?_) 6 0 M1 (by omega) fk.refl (fun t ht => absurd ht (Nat.not_lt_zero _))
      exact nxt M' (ov X N l, l) (hf1.tr f'.fs35) (hr1.e (f' 42 0 (by omega))) (fun t ht => by rw [e' t (by omega)]; exact hr1 t (by omega)) hA'
theorem r_ord (hR : RS M0 S) (hX : S.2.2.2.2.1 = some X) (hk : trOK X) (hN : N ≤ 50) (hn : S.2.2.2.2.2.1.1 ≤ 24)
    (hQ : ∀ M', fs M0 M' → (∀ t, t < X.2.1.2.2 → M' 35 0 t = nI ((ordS X N).2.getD t 0)) → ((0 ≤ a1 → (vp_in (nI 2) 1988 ∧ (((M' 33 0 (nI 2).toNatClampNeg) ≤ a1 → Q (-1000000 : Int32) M') ∧ (¬ (M' 33 0 (nI 2).toNatClampNeg) ≤ a1 → (vp_in a1 6 ∧ Q (M' 35 0 a1.toNatClampNeg) M'))))) ∧ (¬ 0 ≤ a1 → (¬ (nI 10) = 0 ∧ Q ((ordS X N).1 / (nI 10)) M')))) : ∃ k, wl_X7_order_30 Q k (nI N) a1 (nI 0) M0 := by
  have b2 := hk.hd.2.2.2.2.2.1
  have lp : ∀ (r i : Nat) (M : gh_M), i + r = 6 → fk 42 M0 M → (∀ t, t < i → M 42 0 t = nI t) → wl_X7_order_30 Q (r + 1) (nI N) a1 (nI i) M := by
    intro r
    induction r with
    | zero =>
      intro i M hi hf he
      have : i = 6 := by omega
      subst this
      unfold wl_X7_order_30
      refine ⟨fun _ => ⟨721, ?_⟩, fun g => absurd (Int32.le_refl _) g⟩
      refine r_ord_l (A := ordS X N) hR hX hk hN hn hQ 720 (List.range X.2.1.2.2) M (-1, []) (end_ok _ (by omega)) (fun z hz => pm_p (by omega) hz) hf.fs42 (fun t ht => ?_) (Or.inr rfl) (by unfold ordS; rw [ordF_bst])
      rw [List.length_range] at ht
      rw [he t (by omega), List.getD_eq_getElem?_getD, List.getElem?_range ht]
      rfl
    | succ r ih =>
      intro i M hi hf he
      unfold wl_X7_order_30
      refine ⟨fun g => absurd g (nI_ge (by omega) (by omega)), fun _ => ?_⟩
      simp (disch := omega) only [nI_clamp, zb_in, true_and, forall_eq, nI_add]
      refine ih (i + 1) _ (by omega) hf.st (fun t ht => ?_)
      by_cases q : t = i
      · subst q; rw [zb_s]
      · rw [zb_j _ _ _ _ q]; exact he t (by omega)
  exact ⟨7, lp 6 0 M0 (by omega) fk.refl (fun t ht => absurd ht (Nat.not_lt_zero _))⟩
end RP
theorem L_order {a0 a1 : Int32} {M : gh_M} {S : SS} (hC : CS M S) (hR : RS M S) : wp_X6_order a0 a1 M (fun r1 M1 => wp_X7_order a0 a1 M1 (fun r2 M2 => r1 = r2 ∧ OKn M2)) := by
  have hOK : OKn M := ⟨S, hC, hR⟩
  have hT := hC.2.2.2.2.2.2.1
  have hT2 := hR.2.2.2.2.2.1
  obtain ⟨e0, e1, e2, b0, b1, b2⟩ := hT.hd
  obtain ⟨f0, f1, f2⟩ := hT2.hd hT.ok
  unfold wp_X6_order wp_X7_order
  cases hX : S.2.2.2.2.1 with
  | none =>
    rw [hX] at e2 f0
    refine c_hasn e2 ?_
    simp only [z0, not_true_eq_false, t01, false_implies, true_and, and_true]
    refine r_hasn f0 ?_
    simp only [z0, not_true_eq_false, t01, false_implies, true_and, and_true]
    exact hOK
  | some X =>
    rw [hX] at e0 e1 e2 f0 f1 f2 b0 b1 b2
    obtain ⟨hk, -⟩ := hC.trn hX
    have o1 : 4 ≤ X.2.1.1 := hk.2.1
    have o3 := hk.2.2.2.1
    have p0 : 0 < onc (some X) := Nat.lt_of_lt_of_le (by omega) o1
    have e2' : M 6 0 2 = nI X.2.1.2.2 := e2
    have b2' : X.2.1.2.2 ≤ 6 := b2
    refine c_hasy e2 (by exact o3) (by omega) ?_
    simp only [z1, not_false_eq_true, t01, false_implies, true_and, and_true]
    rcases zb_rng a0 1 50 (by omega) (by omega) with hb | ⟨-, hb⟩ | ⟨N, hN1, hN, rfl⟩
    · refine w6n (Or.inl hb) ?_
      simp only [z0, not_true_eq_false, t01, false_implies, true_and, and_true]
      refine r_hasy f0 p0 (by omega) ?_
      simp only [z1, not_false_eq_true, t01, false_implies, true_and, and_true]
      refine w7n (Or.inl hb) ?_
      simp only [z0, not_true_eq_false, t01, false_implies, true_and, and_true]
      exact hOK
    · refine w6n (Or.inr hb) ?_
      simp only [z0, not_true_eq_false, t01, false_implies, true_and, and_true]
      refine r_hasy f0 p0 (by omega) ?_
      simp only [z1, not_false_eq_true, t01, false_implies, true_and, and_true]
      refine w7n (Or.inr hb) ?_
      simp only [z0, not_true_eq_false, t01, false_implies, true_and, and_true]
      exact hOK
    · refine w6y (nI_nlt (by omega) (by omega)) (nI_nlt hN (by omega)) ?_
      simp only [z1, not_false_eq_true, t01, false_implies, true_and, and_true]
      -- the reference from a memory that keeps its part
      have ref : ∀ (M3 : gh_M) (r1 : Int32), CS M3 S → RS M3 S → (-1 : Int32) ≤ a1 → (∀ M', OKn M' → M' 33 0 2 = nI X.2.1.2.2 → (∀ t, t < X.2.1.2.2 → M' 35 0 t = nI ((ordS X N).2.getD t 0)) → ((0 ≤ a1 → (vp_in (nI 2) 1988 ∧ (((M' 33 0 (nI 2).toNatClampNeg) ≤ a1 → r1 = (-1000000 : Int32) ∧ OKn M') ∧ (¬ (M' 33 0 (nI 2).toNatClampNeg) ≤ a1 → (vp_in a1 6 ∧ r1 = (M' 35 0 a1.toNatClampNeg) ∧ OKn M'))))) ∧ (¬ 0 ≤ a1 → (¬ (nI 10) = 0 ∧ r1 = ((ordS X N).1 / (nI 10)) ∧ OKn M')))) → wp_X7_isTrain M3 (fun r1_1 M2 => ((¬ r1_1 = 0 → wp_X7_in (nI N) (nI 1) (nI 50) M2 (fun r4 M5 => ((r4 = 0 → r1 = (-1000001 : Int32) ∧ OKn M5) ∧ (¬ r4 = 0 → (((-1 : Int32) ≤ a1 → ∃ k, wl_X7_order_30 (fun r2 M2 => r1 = r2 ∧ OKn M2) k (nI N) a1 (nI 0) M5) ∧ (¬ (-1 : Int32) ≤ a1 → r1 = (-1000001 : Int32) ∧ OKn M5)))))) ∧ (r1_1 = 0 → r1 = (-1000002 : Int32) ∧ OKn M2))) := by
        intro M3 r1 hC3 hR3 hle hF
        have g0 := hR3.trn hX
        refine r_hasy (n := X.2.1.1) ((g0.at0 (i := 0) (by omega) rfl).trans hk.hd.1) (by omega) (by have := hk.hd.2.2.2.1; omega) ?_
        simp only [z1, not_false_eq_true, t01, false_implies, true_and, and_true]
        refine w7y (nI_nlt (by omega) (by omega)) (nI_nlt hN (by omega)) ?_
        simp only [z1, not_false_eq_true, t01, false_implies, true_and, and_true]
        refine ⟨fun _ => r_ord hR3 hX hk hN hC.n24 (fun M' f' e' => hF M' ⟨S, hC3.fC f'.fC, hR3.fs f' hC.n24⟩ ?_ e'), fun g => absurd hle g⟩
        rw [f' 33 0 2 (by omega) (by omega) (by omega), g0.at0 (i := 2) (by omega) rfl]
        exact hk.hd.2.2.1
      refine ⟨fun hle => ⟨fun hlt => ?_, fun hge => ?_⟩, fun hnle => ?_⟩
      · rw [e2'] at hlt
        refine c_fndO hC hX hN1 hN (fun M3 hC3 fR3 e7 e26 => ⟨fun hp => ?_, fun hp => ?_⟩)
        · obtain ⟨u, hu, rfl⟩ := nI_of (Int32.not_lt.mpr hp)
          have hu' := (nI_ltI hu (by omega)).mp hlt
          rw [nI_clamp hu, e26 u hu']
          refine ⟨vp_in_nI (by omega) (by omega), ref M3 _ hC3 (hR.fR fR3 hC.n24) hle (fun M' ok e2 e35 => ?_)⟩
          rw [nI_clamp (by omega), nI_clamp hu, e2, e35 u hu']
          exact ⟨fun _ => ⟨vp_in_nI (by omega) (by omega), fun g => absurd g (nI_ge hu' (by omega)), fun _ => ⟨vp_in_nI (by omega) (by omega), rfl, ok⟩⟩, fun g => absurd hp g⟩
        · refine ref M3 _ hC3 (hR.fR fR3 hC.n24) hle (fun M' ok e2 e35 => ⟨fun g => absurd g hp, fun _ => ⟨by decide, e7, ok⟩⟩)
      · rw [e2'] at hge
        have hge' := Int32.not_lt.mp hge
        refine ref M _ hC hR hle (fun M' ok e2 e35 => ?_)
        rw [nI_clamp (by omega), e2]
        exact ⟨fun _ => ⟨vp_in_nI (by omega) (by omega), fun _ => ⟨rfl, ok⟩, fun g => absurd hge' g⟩, fun g => absurd (Int32.le_trans (nI_pos' (by omega)) hge') g⟩
      · refine r_hasy f0 p0 (by omega) ?_
        simp only [z1, not_false_eq_true, t01, false_implies, true_and, and_true]
        refine w7y (nI_nlt (by omega) (by omega)) (nI_nlt hN (by omega)) ?_
        simp only [z1, not_false_eq_true, t01, false_implies, true_and, and_true]
        exact ⟨fun g => absurd g hnle, fun _ => hOK⟩
