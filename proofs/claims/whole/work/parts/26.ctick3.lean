theorem sp_le_some {rk : Nat → Nat} {na nt : Nat} {T : TT} (h : (sp_in T na (nI 0)).isSome = true) : ∀ (r k : Nat), sp_le rk na nt k r T = T
  | 0, _ => rfl
  | r + 1, k => by unfold sp_le; rw [if_pos h]
theorem sp_in_is {T : TT} {na c : Nat} {v : Int32} (hc : c < na) (e : T (29 + 7 * c + 3) = v) : (sp_in T na v).isSome = true := by
  cases h : sp_in T na v with
  | some d => rfl
  | none => exact absurd e (sp_in_none h c hc)
theorem c_let {M0 : gh_M} {t nt na nc : Nat} {pc rk : Nat → Nat} {K : Nat → Int32} (hK : ∀ k, k < na → K k = nI (rk k) ∧ rk k < na) (hnc0 : 0 < nc) {Q : gh_M → Prop} :
    ∀ (r k : Nat) (M : gh_M) (T : TT), k + r = na → sp_hd T nc nt na pc → sp_in T na (nI 0) = none → cz M0 t nc nt na K M T → (∀ M', cz M0 t nc nt na K M' (sp_le rk na nt k r T) → Q M') → wl_X5_letIn_2 t Q (r + 1) (nI k) M := by
  intro r
  induction r with
  | zero =>
    intro k M T hk hh hin hZ hQ
    obtain ⟨I, hX, hI, hw⟩ := hZ
    obtain ⟨k0, k1, k2, b0, b1, b2, k3⟩ := hh
    have e2 : M 6 t 2 = nI na := hX.1.2.2.1.trans k2
    unfold wl_X5_letIn_2
    simp only [e2]
    exact ⟨fun _ => hQ _ ⟨I, hX, hI, hw⟩, fun h => absurd (nI_le (by omega) (by omega)) h⟩
  | succ r ih =>
    intro k M T hk hh hin hZ hQ
    have hZ' := hZ
    obtain ⟨I, hX, hI, hw⟩ := hZ
    have hh' := hh
    obtain ⟨k0, k1, k2, b0, b1, b2, k3⟩ := hh
    have hd := hX.1
    have e2 : M 6 t 2 = nI na := hd.2.2.1.trans k2
    obtain ⟨hK1, hK2⟩ := hK k (by omega)
    have eK : M 19 t k = nI (rk k) := (hX.2.2.2.1 k).trans hK1
    unfold sp_le at hQ
    rw [hin, if_neg (by decide)] at hQ
    unfold wl_X5_letIn_2
    simp (disch := omega) only [nI_add, nI_clamp, zb_in, true_and, e2, eK, forall_eq, hd.c3]
    refine ⟨fun h => absurd h (nI_ge (by omega) (by omega)), fun _ => ⟨fun h => ?_, fun h => ?_⟩⟩
    · rw [if_neg h] at hQ
      exact ih (k + 1) M T (by omega) hh' hin hZ' hQ
    · rw [if_pos h] at hQ
      have hfr := sp_in_none hin
      have hc1 := cnt_upd (T := T) (v := nI 0) hK2
      rw [rn_no (by rw [h]; decide), if_neg (by decide), if_neg (by decide)] at hc1
      have hX1 := hX.stR (M 6 t 4 + nI 1)
      rw [hX.2.1, nI_add] at hX1 ⊢
      have ec : cnt T na + 1 = cnt (upd T (29 + 7 * rk k + 3) (nI 0)) na := by omega
      rw [ec] at hX1 ⊢
      refine c_come (nc := nc) k1 hw b1 b2 b0 hK2 hnc0 (fun c hc2 _ => hfr c hc2) hX1 (fun M' hX' => ?_)
      have hw2 : wf (sp_co T na nt (rk k) (nI 0)) nc nt na := hw.co b1 (Or.inl ⟨0, hnc0, rfl⟩) (fun c hc2 _ e => absurd e (hfr c hc2))
      rw [sp_le_some (sp_in_is hK2 (by rw [sp_co_w T na (rk k) _ _ b1, if_pos rfl]))] at hQ
      refine hQ _ ⟨upd I 0 (nI (rk k)), ?_, icI.on (I := I) (T := T) (fun i hi => ?_) b2 b0 hnc0 hK2 (fun c hc2 _ => hfr c hc2) (fun c _ => sp_co_w T na (rk k) _ c b1), hw2⟩
      · have e3 : cnt (upd T (29 + 7 * rk k + 3) (nI 0)) na = cnt (sp_co T na nt (rk k) (nI 0)) na := cnt_cong fun c hc2 => by
          unfold rn
          rw [sp_co_w T na (rk k) _ c b1, zb_upd]
          by_cases z : c = rk k
          · rw [if_pos (by omega), if_pos z]
          · rw [if_neg (by omega), if_neg z]
        rw [e3] at hX'
        exact hX'
      · rcases hI i hi with ⟨g1, g2⟩ | ⟨d, hd2, hne, g1, g2⟩
        · exact Or.inl ⟨g1, fun c hc2 _ => g2 c hc2 (by omega)⟩
        · refine Or.inr ⟨d, hd2, fun z => ?_, g1, g2⟩
          subst z
          have := zb_nI_inj (h.symm.trans g1) (by omega) (by omega)
          omega
theorem cz.tick {M0 M : gh_M} {t nt na nc : Nat} {K : Nat → Int32} {T : TT} (hZ : cz M0 t nc nt na K M T) : cz M0 t nc nt na K (gh_st M 6 t 3 (M 6 t 3 + nI 1)) (upd T 3 (T 3 + nI 1)) := by
  obtain ⟨I, hX, hI, hw⟩ := hZ
  have e3 : M 6 t 3 = T 3 := hX.1.2.2.2.1
  rw [e3]
  have ec : cnt T na = cnt (upd T 3 (T 3 + nI 1)) na := cnt_cong fun c _ => by unfold rn; rw [pk_un (by omega)]
  refine ⟨I, ?_, fun i hi => ?_, hw.tick⟩
  · rw [← ec]
    exact hX.stT _
  · rcases hI i hi with ⟨g1, g2⟩ | ⟨d, hd2, hne, g1, g2⟩
    · exact Or.inl ⟨g1, fun c hc2 hne => by rw [pk_un (by omega)]; exact g2 c hc2 hne⟩
    · exact Or.inr ⟨d, hd2, hne, by rw [pk_un (by omega)]; exact g1, g2⟩
theorem c_tick_l {M0 : gh_M} {t nt na nc : Nat} {pc rk : Nat → Nat} {K : Nat → Int32} (hK : ∀ k, k < na → K k = nI (rk k) ∧ rk k < na) (hnc0 : 0 < nc) {Q : gh_M → Prop} :
    ∀ (j : Nat) (M : gh_M) (T : TT), j ≤ nc → sp_hd T nc nt na pc → cz M0 t nc nt na K M T → (∀ M', cz M0 t nc nt na K M' (upd (sp_le rk na nt 0 na (sp_cl pc na nt j T)) 3 ((sp_le rk na nt 0 na (sp_cl pc na nt j T)) 3 + nI 1)) → Q M') → wl_X5_tickOn_7 t Q (j + 1) (nI j - nI 1) M := by
  intro j
  induction j with
  | zero =>
    intro M T hj hh hZ hQ
    have hZ' := hZ
    obtain ⟨I, hX, hI, hw⟩ := hZ
    obtain ⟨k0, k1, k2, b0, b1, b2, k3⟩ := hh
    unfold wl_X5_tickOn_7
    have eI : M 20 t (nI 0).toNatClampNeg = I 0 := hX.2.2.1 0
    refine ⟨fun _ => ⟨vp_in_nI (by decide) (by decide), fun h => ?_, fun h => ?_⟩, fun h => absurd (by decide) h⟩
    · rintro _ rfl
      rw [eI] at h
      have hs : (sp_in T na (nI 0)).isSome = true := by
        cases h9 : sp_in T na (nI 0) with
        | some c => rfl
        | none => exact absurd (hI.none b2 hnc0 (sp_in_none h9)) h
      refine hQ _ ?_
      show cz M0 t nc nt na K _ (upd (sp_le rk na nt 0 na T) 3 ((sp_le rk na nt 0 na T) 3 + nI 1))
      rw [sp_le_some hs]
      exact hZ'.tick
    · rw [eI] at h
      have hs : sp_in T na (nI 0) = none := by
        cases h9 : sp_in T na (nI 0) with
        | none => rfl
        | some c =>
          rw [hI.some hw b2 b0 hnc0 (sp_in_some h9).1 (sp_in_some h9).2] at h
          exact absurd h (nI_m1 (by have := (sp_in_some h9).1; omega))
      refine ⟨na + 1, c_let hK hnc0 na 0 M T (by omega) ⟨k0, k1, k2, b0, b1, b2, k3⟩ hs hZ' (fun M' hZ2 => ?_)⟩
      rintro _ rfl
      exact hQ _ hZ2.tick
  | succ j ih =>
    intro M T hj hh hZ hQ
    have hZ' := hZ
    obtain ⟨I, hX, hI, hw⟩ := hZ
    have hh' := hh
    obtain ⟨k0, k1, k2, b0, b1, b2, k3⟩ := hh
    unfold wl_X5_tickOn_7
    unfold sp_cl at hQ
    have ej : nI (j + 1) - nI 1 = nI j := nI_pred j
    rw [ej]
    have em : nI j + (-1 : Int32) = nI j - nI 1 := by rw [Int32.sub_eq_add_neg]; rfl
    simp (disch := omega) only [nI_clamp, zb_in, true_and, hX.2.2.1]
    refine ⟨fun h => absurd h (nI_pos (by omega)), fun _ => ⟨fun h => ?_, fun h => ?_⟩⟩
    · have hs : sp_in T na (nI j) = none := by
        cases h9 : sp_in T na (nI j) with
        | none => rfl
        | some c =>
          rw [hI.some hw b2 b0 (by omega) (sp_in_some h9).1 (sp_in_some h9).2] at h
          exact absurd h (nI_m1 (by have := (sp_in_some h9).1; omega))
      rw [hs] at hQ
      rintro _ rfl
      rw [em]
      exact ih M T (by omega) hh' hZ' hQ
    · cases h9 : sp_in T na (nI j) with
      | none => exact absurd (hI.none b2 (by omega) (sp_in_none h9)) h
      | some c =>
        have hc := (sp_in_some h9).1
        have hW := (sp_in_some h9).2
        rw [h9] at hQ
        rw [hI.some hw b2 b0 (by omega) hc hW]
        refine c_go hc hh' (by omega) hW hZ' (fun M' hZ2 => ?_)
        rintro _ rfl
        rw [em]
        exact ih M' _ (by omega) (hh'.kp (sp_go_kp T (by omega) b1)) hZ2 hQ
theorem c_tick {M0 M : gh_M} {t nt na nc : Nat} {pc rk : Nat → Nat} {K : Nat → Int32} {T : TT} (hK : ∀ k, k < na → K k = nI (rk k) ∧ rk k < na) (hnc0 : 0 < nc) (hh : sp_hd T nc nt na pc) (hZ : cz M0 t nc nt na K M T) {Q : gh_M → Prop} (hQ : ∀ M', cz M0 t nc nt na K M' (sp_tk pc rk nc nt na T) → Q M') : wp_X5_tickOn t M Q := by
  have e0 : M 6 t 0 = nI nc := by
    obtain ⟨I, hX, -⟩ := hZ
    exact hX.1.1.trans hh.1
  unfold wp_X5_tickOn
  rw [e0]
  rintro _ rfl
  exact ⟨nc + 1, c_tick_l hK hnc0 nc M T (Nat.le_refl _) hh hZ hQ⟩
