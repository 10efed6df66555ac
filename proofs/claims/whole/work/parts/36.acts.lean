-- ACTS: how screams grow, what an act keeps, how the train changes
/-- the tick stays, screams grow by d at most -/
def gr (na d : Nat) (T T' : TT) : Prop := T' 3 = T 3 ∧ ∀ c, c < na → ∃ e, e ≤ d ∧ T' (29 + 7 * c + 5) = T (29 + 7 * c + 5) + nI e
theorem gr.rf {na : Nat} {T : TT} : gr na 0 T T := ⟨rfl, fun c _ => ⟨0, Nat.le_refl _, (Int32.add_zero _).symm⟩⟩
theorem gr.tr {na d e : Nat} {A B C : TT} (h : gr na d A B) (g : gr na e B C) : gr na (d + e) A C := ⟨g.1.trans h.1, fun c hc => by
  obtain ⟨x, hx, ex⟩ := h.2 c hc
  obtain ⟨y, hy, ey⟩ := g.2 c hc
  exact ⟨x + y, by omega, by rw [ey, ex, Int32.add_assoc, nI_add]⟩⟩
theorem gr.le {na d e : Nat} {A B : TT} (h : gr na d A B) (hd : d ≤ e) : gr na e A B := ⟨h.1, fun c hc => by
  obtain ⟨x, hx, ex⟩ := h.2 c hc
  exact ⟨x, by omega, ex⟩⟩
theorem gr.up {na i : Nat} {T : TT} {v : Int32} (h3 : i ≠ 3) (hs : ∀ c, c < na → i ≠ 29 + 7 * c + 5) : gr na 0 T (upd T i v) :=
  ⟨pk_un (Ne.symm h3), fun c hc => ⟨0, Nat.le_refl _, by rw [pk_un (Ne.symm (hs c hc))]; exact (Int32.add_zero _).symm⟩⟩
theorem gr_m1 {T : TT} {na car t : Nat} {j : Int32} (ht : t < 5) : gr na 0 T (sp_m1 T na car j t) := by
  unfold sp_m1
  split
  · exact (gr.up (i := 4 + 5 * t + 4) (by omega) (fun c hc => by omega)).tr (gr.up (i := 29 + 7 * car + 4) (by omega) (fun c hc => by omega))
  · exact gr.rf
theorem gr_ms {T : TT} {na car : Nat} {j : Int32} : ∀ n, n ≤ 5 → gr na 0 T (sp_ms T na car j n)
  | 0, _ => gr.rf
  | n + 1, h => (gr_ms n (by omega)).tr (gr_m1 (by omega))
theorem gr_c0 {T : TT} {na nt car : Nat} {j : Int32} (hn : nt ≤ 5) : gr na 0 T (sp_c0 T na nt car j) := (gr.up (i := 29 + 7 * car + 3) (by omega) (fun c hc => by omega)).tr (gr_ms nt hn)
theorem gr_sc {T : TT} {na car : Nat} : gr na 1 T (sp_sc T car) := by
  unfold sp_sc
  refine ⟨by rw [pk_un (by omega), pk_un (by omega), pk_un (by omega)], fun c hc => ?_⟩
  rw [pk_un (by omega), pk_un (by omega), zb_upd]
  by_cases e : c = car
  · subst e; rw [if_pos rfl]; exact ⟨1, Nat.le_refl _, rfl⟩
  · rw [if_neg (by omega)]; exact ⟨0, by omega, (Int32.add_zero _).symm⟩
theorem gr_co {T : TT} {na nt car : Nat} {j : Int32} (hn : nt ≤ 5) : gr na 1 T (sp_co T na nt car j) := by
  unfold sp_co
  split
  · exact (gr_c0 hn).tr gr_sc
  · exact (gr_c0 hn).le (by omega)
theorem gr_goF {na nt car : Nat} (hn : nt ≤ 5) : ∀ (k : Nat) (T : TT), gr na 1 T (sp_goF na nt car k T)
  | 0, T => gr.rf.le (by omega)
  | k + 1, T => by
    unfold sp_goF
    split
    · exact (gr.up (i := 29 + 7 * car + 3) (by omega) (fun c hc => by omega)).le (by omega)
    · split
      · exact gr.rf.le (by omega)
      · split
        · exact gr_co hn
        · rename_i h
          have e : sp_co T na nt car (T (29 + 7 * car + 3) + nI 1) = sp_c0 T na nt car (T (29 + 7 * car + 3) + nI 1) := if_neg h
          rw [e]
          exact (gr_c0 hn).tr (gr_goF hn k _)
theorem gr_go {pc : Nat → Nat} {T : TT} {na nt car : Nat} (hn : nt ≤ 5) : gr na 1 T (sp_go pc T na nt car) := by
  unfold sp_go
  split
  · exact (gr.up (i := 29 + 7 * car + 6) (by omega) (fun c hc => by omega)).le (by omega)
  · exact gr_goF hn _ T
theorem gr_cl {pc : Nat → Nat} {na nt : Nat} (hn : nt ≤ 5) : ∀ (j : Nat) (T : TT), gr na j T (sp_cl pc na nt j T)
  | 0, T => gr.rf
  | j + 1, T => by
    unfold sp_cl
    have h1 : gr na 1 T (match sp_in T na (nI j) with
      | none => T
      | some c => sp_go pc T na nt c) := by
      cases sp_in T na (nI j) with
      | none => exact gr.rf.le (by omega)
      | some c => exact gr_go hn
    exact (h1.tr (gr_cl hn j _)).le (by omega)
theorem gr_le {rk : Nat → Nat} {na nt : Nat} (hn : nt ≤ 5) : ∀ (r k : Nat) (T : TT), gr na r T (sp_le rk na nt k r T)
  | 0, _, T => gr.rf
  | r + 1, k, T => by
    unfold sp_le
    split
    · exact gr.rf.le (by omega)
    · have h1 : gr na 1 T (if T (29 + 7 * rk k + 3) = nI 20 then sp_co T na nt (rk k) (nI 0) else T) := by
        split
        · exact gr_co hn
        · exact gr.rf.le (by omega)
      exact (h1.tr (gr_le hn r (k + 1) _)).le (by omega)
theorem gr_tk {pc rk : Nat → Nat} {nc nt na : Nat} {T : TT} (hn : nt ≤ 5) (ha : na ≤ 6) (hnc : nc ≤ 12) : gr na 18 T (sp_le rk na nt 0 na (sp_cl pc na nt nc T)) := ((gr_cl hn nc T).tr (gr_le hn na 0 _)).le (by omega)
/-- at the tick number k -/
def tbk (T : TT) (na k : Nat) : Prop := T 3 = nI k ∧ ∀ c, c < na → ∃ s, s ≤ 20 * k ∧ T (29 + 7 * c + 5) = nI s
theorem tbk.tk {pc rk : Nat → Nat} {nc nt na k : Nat} {T : TT} (hn : nt ≤ 5) (ha : na ≤ 6) (hnc : nc ≤ 12) (h : tbk T na k) : tbk (sp_tk pc rk nc nt na T) na (k + 1) := by
  obtain ⟨g3, gs⟩ := gr_tk (pc := pc) (rk := rk) (T := T) hn ha hnc
  unfold sp_tk
  refine ⟨by rw [pk_us, g3, h.1, nI_add], fun c hc => ?_⟩
  rw [pk_un (by omega)]
  obtain ⟨e, he, ee⟩ := gs c hc
  obtain ⟨s, hs, es⟩ := h.2 c hc
  exact ⟨s + e, by omega, by rw [ee, es, nI_add]⟩
theorem tbk.run {pc rk : Nat → Nat} {nc nt na : Nat} (hn : nt ≤ 5) (ha : na ≤ 6) (hnc : nc ≤ 12) : ∀ (n k : Nat) (T : TT), tbk T na k → tbk (sp_run pc rk nc nt na n T) na (k + n)
  | 0, k, T, h => h
  | n + 1, k, T, h => by
    have := tbk.run (pc := pc) (rk := rk) hn ha hnc n (k + 1) _ (h.tk (pc := pc) (rk := rk) hn ha hnc)
    rw [show k + 1 + n = k + (n + 1) by omega] at this
    exact this
theorem tbk.up {T : TT} {na k i : Nat} {v : Int32} (h : tbk T na k) (h3 : i ≠ 3) (hs : ∀ c, c < na → i ≠ 29 + 7 * c + 5) : tbk (upd T i v) na k :=
  ⟨by rw [pk_un (Ne.symm h3)]; exact h.1, fun c hc => by rw [pk_un (Ne.symm (hs c hc))]; exact h.2 c hc⟩
theorem sp_hd.up {T : TT} {nc nt na i : Nat} {pc : Nat → Nat} {v : Int32} (h : sp_hd T nc nt na pc) (h3 : 3 ≤ i) (hs : ∀ c, c < na → i ≠ 29 + 7 * c + 2) : sp_hd (upd T i v) nc nt na pc := by
  obtain ⟨k0, k1, k2, b0, b1, b2, k3⟩ := h
  refine ⟨?_, ?_, ?_, b0, b1, b2, fun c hc => ⟨?_, (k3 c hc).2⟩⟩
  · rw [pk_un (by omega)]; exact k0
  · rw [pk_un (by omega)]; exact k1
  · rw [pk_un (by omega)]; exact k2
  · rw [pk_un (Ne.symm (hs c hc))]; exact (k3 c hc).1
theorem trOK.up {X : TR} (h : trOK X) {i : Nat} {v : Int32} (h3 : 4 ≤ i) (hs : ∀ c, c < 6 → i ≠ 29 + 7 * c + 2 ∧ i ≠ 29 + 7 * c + 5) : trOK (upd X.1 i v, X.2) := by
  obtain ⟨h1, h2, h4, h5, k, hk, h6⟩ := h
  have ha := h1.2.2.2.2.2.1
  exact ⟨h1.up (by omega) (fun c hc => (hs c (by omega)).1), h2, h4, h5, k, hk, tbk.up h6 (by omega) (fun c hc => (hs c (Nat.lt_of_lt_of_le hc ha)).2)⟩
-- the state with another train, with an act more
def stT (S : SS) (X : TR) : SS := (S.1, S.2.1, S.2.2.1, S.2.2.2.1, some X, S.2.2.2.2.2)
def actN (n : Nat) : Nat := if n = 24 then 24 else n + 1
def actB (n : Nat) (B : Nat → TT) (T : TT) : Nat → TT := if n = 24 then fun i => if i = 23 then T else B (i + 1) else fun i => if i = n then T else B i
def actS (S : SS) (X : TR) : SS := (S.1, S.2.1, S.2.2.1, S.2.2.2.1, S.2.2.2.2.1, (actN S.2.2.2.2.2.1.1, actB S.2.2.2.2.2.1.1 S.2.2.2.2.2.1.2 X.1), S.2.2.2.2.2.2)
theorem cz.re {M0 M : gh_M} {t nc nt na : Nat} {K : Nat → Int32} {T : TT} (h : cz M0 t nc nt na K M T) : cz M t nc nt na (M 19 t) M T := by
  obtain ⟨I, ⟨h1, hR, hI0, hK0, hb, hf⟩, hI, hw⟩ := h
  exact ⟨I, ⟨h1, hR, hI0, fun _ => rfl, hb, ft.refl⟩, hI, hw⟩
theorem cz.bo {M0 M : gh_M} {t nc nt na : Nat} {K : Nat → Int32} {T : TT} (h : cz M0 t nc nt na K M T) : bo M t := by
  obtain ⟨I, ⟨h1, hR, hI0, hK0, hb, hf⟩, hI, hw⟩ := h
  exact hb
theorem cz.ft {M0 M : gh_M} {t nc nt na : Nat} {K : Nat → Int32} {T : TT} (h : cz M0 t nc nt na K M T) : ft t M0 M := by
  obtain ⟨I, ⟨h1, hR, hI0, hK0, hb, hf⟩, hI, hw⟩ := h
  exact hf
theorem cz.K19 {M0 M : gh_M} {t nc nt na : Nat} {K : Nat → Int32} {T : TT} (h : cz M0 t nc nt na K M T) (i : Nat) : M 19 t i = K i := by
  obtain ⟨I, ⟨h1, hR, hI0, hK0, hb, hf⟩, hI, hw⟩ := h
  exact hK0 i
theorem cz.cd {M0 M : gh_M} {t nc nt na : Nat} {K : Nat → Int32} {T : TT} (h : cz M0 t nc nt na K M T) : cd M t T nt na := by
  obtain ⟨I, ⟨h1, hR, hI0, hK0, hb, hf⟩, hI, hw⟩ := h
  exact h1
theorem cz.wf {M0 M : gh_M} {t nc nt na : Nat} {K : Nat → Int32} {T : TT} (h : cz M0 t nc nt na K M T) : wf T nc nt na := by
  obtain ⟨I, ⟨h1, hR, hI0, hK0, hb, hf⟩, hI, hw⟩ := h
  exact hw
theorem mo24 {p : Nat} (hp : p < 24) : (nI p + nI 1) - (nI p + nI 1) / nI 24 * nI 24 = nI ((p + 1) % 24) := by
  revert hp; revert p; decide +kernel
theorem mb24 {p : Nat} (hp : p < 24) : ((nI p + nI 24) - nI 1) - ((nI p + nI 24) - nI 1) / nI 24 * nI 24 = nI ((p + 23) % 24) := by
  revert hp; revert p; decide +kernel
theorem mi24 {n : Nat} (hn : n ≤ 24) : (if nI 24 < nI n + nI 1 then nI 24 else nI n + nI 1) = nI (actN n) := by
  have : n < 25 := by omega
  revert this; clear hn; revert n; decide +kernel
/-- another train stands, by acts: the class -/
theorem CS.tz {M M' : gh_M} {S : SS} {X : TR} {T' : TT} (hC : CS M S) (hX : S.2.2.2.2.1 = some X) (hz : cz M 0 X.2.1.1 X.2.1.2.1 X.2.1.2.2 (M 19 0) M' T') (hk : trOK (T', X.2)) (h6 : M 24 0 6 = nI 0) : CS M' (stT S (T', X.2)) := by
  have hf := hz.ft
  have hb := hz.bo
  obtain ⟨h0, h1, h2, h3, h4, h5, g6, h7, h8, h9⟩ := hC
  have e : ∀ a b, ¬ (b = 0 ∧ 6 ≤ a ∧ a ≤ 20) → M' a b = M a b := hf
  rw [hX] at g6 h7
  refine ⟨fun t ht => ?_, h1.mv (fun a b q => e a b (by omega)), ?_, ?_, ?_, ?_, ⟨hk, hz.re, fun k hk => ?_⟩, ?_, h8.mv (fun a t q1 q2 q3 q4 => e a t (by omega)), Or.inl ?_⟩
  · by_cases q : t = 0
    · subst q; exact hb
    · have := h0 t ht
      unfold bo at this ⊢
      rw [e 10 t (by omega), e 18 t (by omega)]
      exact this
  · unfold cTap at h2 ⊢
    rw [e 4 0 (by omega), e 5 0 (by omega)]
    exact h2
  · rw [e 0 0 (by omega)]; exact h3
  · rw [e 0 0 (by omega)]; exact h4
  · unfold cTrc at h5 ⊢
    rw [e 30 0 (by omega), e 31 0 (by omega)]
    exact h5
  · rw [hz.K19]; exact g6.2.2 k hk
  · obtain ⟨a1, a2, ⟨p, hp, a3, a4⟩, a5⟩ := h7
    refine ⟨a1, by rw [e 21 0 (by omega)]; exact a2, ⟨p, hp, by rw [e 21 0 (by omega)]; exact a3, fun Y hY i hi => ?_⟩, fun z => by cases z⟩
    injection hY with hY
    subst hY
    exact ⟨(a4 X rfl i hi).1, (a4 X rfl i hi).2.mv (fun a ha hb => e a _ (by omega))⟩
  · rw [e 24 0 (by omega)]; exact h6
/-- an act begins: the class -/
theorem c_begin {M : gh_M} {S : SS} {X : TR} (hC : CS M S) (hX : S.2.2.2.2.1 = some X) {Q : gh_M → Prop} (hQ : ∀ M', CS M' (actS S X) → M' 24 0 6 = nI 0 → fR M M' → Q M') : wp_X6_beginAct M Q := by
  have hC0 := hC
  obtain ⟨h0, h1, h2, h3, h4, h5, g6, h7, h8, h9⟩ := hC
  rw [hX] at g6 h7
  obtain ⟨a1, a2, ⟨p, hp, a3, a4⟩, a5⟩ := h7
  obtain ⟨gk, gz, g19⟩ := g6
  have gk' := gk
  obtain ⟨⟨k0, k1, k2, b0, b1, b2, k3⟩, -⟩ := gk'
  unfold wp_X6_beginAct wp_X0_keep wp_X2_forget
  rw [a3, nI_clamp (by omega)]
  refine ⟨vp_in_nI hp (by omega), ?_⟩
  rintro j hj rfl
  refine c_copy (by omega) (h0 0 (by omega)) (fun M1 hM1 => ⟨by decide, ?_⟩)
  have f1 := hM1.ft
  rintro M6 e6 M7 e7 M8 e8
  have e1 : M1 21 0 = M 21 0 := f1 21 0 (by omega)
  rw [e1, a3, mo24 hp] at e6
  have e62 : M6 21 0 2 = nI S.2.2.2.2.2.1.1 := by rw [e6, zb_j _ _ _ _ (by omega), e1]; exact a2
  rw [e62, mi24 a1] at e7
  have e : ∀ a b, ¬ (b = 2 + p ∧ 6 ≤ a ∧ a ≤ 20) → a ≠ 21 → a ≠ 24 → M8 a b = M a b := fun a b q q1 q2 => by
    rw [e8, zb_kr _ _ _ _ _ q2, e7, zb_kr _ _ _ _ _ q1, e6, zb_kr _ _ _ _ _ q1]; exact f1 a b q
  have e' : ∀ a, 6 ≤ a → a ≤ 20 → ∀ b, M8 a b = M1 a b := fun a q1 q2 b => by
    rw [e8, zb_kr _ _ _ _ _ (by omega), e7, zb_kr _ _ _ _ _ (by omega), e6, zb_kr _ _ _ _ _ (by omega)]
  have z6 : M8 24 0 6 = nI 0 := by rw [e8, zb_s]
  refine hQ M8 ⟨fun t ht => ?_, h1.mv (fun a b q => e a b (by omega) (by omega) (by omega)), ?_, ?_, ?_, ?_, ?_, ?_, h8.mv (fun a t q1 q2 q3 q4 => e a t (by omega) (by omega) (by omega)), Or.inl z6⟩ z6 (fun a b q => e a b (by omega) (by omega) (by omega))
  · by_cases q : t = 2 + p
    · subst q
      have := hM1.bo (h0 0 (by omega))
      unfold bo at this ⊢
      rw [e' 10 (by omega) (by omega), e' 18 (by omega) (by omega)]
      exact this
    · have := h0 t ht
      unfold bo at this ⊢
      rw [e 10 t (by omega) (by omega) (by omega), e 18 t (by omega) (by omega) (by omega)]
      exact this
  · unfold cTap at h2 ⊢
    rw [e 4 0 (by omega) (by omega) (by omega), e 5 0 (by omega) (by omega) (by omega)]
    exact h2
  · rw [e 0 0 (by omega) (by omega) (by omega)]; exact h3
  · rw [e 0 0 (by omega) (by omega) (by omega)]; exact h4
  · unfold cTrc at h5 ⊢
    rw [e 30 0 (by omega) (by omega) (by omega), e 31 0 (by omega) (by omega) (by omega)]
    exact h5
  · show cTrn M8 S.2.2.2.2.1
    rw [hX]
    exact cTrn.mv (M := M) (o := some X) ⟨gk, gz, g19⟩ (fun a q1 q2 => e a 0 (by omega) (by omega) (by omega))
  · show cAct M8 S.2.2.2.2.1 (actN S.2.2.2.2.2.1.1) (actB S.2.2.2.2.2.1.1 S.2.2.2.2.2.1.2 X.1)
    rw [hX]
    generalize S.2.2.2.2.2.1.1 = n at *
    generalize S.2.2.2.2.2.1.2 = B at *
    have hnew : ctr M8 (2 + p) (X.1, X.2) := by
      refine ctr.mv (M := M1) ⟨hM1.cz b0 b1 b2 gz, fun k hk => ?_⟩ (fun a q1 q2 => e' a q1 q2 _)
      have : k < X.2.1.2.2 := hk
      rw [hM1.rk (by omega)]; exact g19 k hk
    have hold : ∀ t Y, t ≠ 2 + p → ctr M t Y → ctr M8 t Y := fun t Y q g => g.mv (fun a q1 q2 => e a t (by omega) (by omega) (by omega))
    refine ⟨by unfold actN; split <;> omega, by rw [e8, zb_k _ _ _ _ _ _ (by omega), e7, zb_s], ⟨(p + 1) % 24, Nat.mod_lt _ (by omega), by rw [e8, zb_k _ _ _ _ _ _ (by omega), e7, zb_j _ _ _ _ (by omega), e6, zb_s], fun Y hY i hi => ?_⟩, fun z => by cases z⟩
    injection hY with hY
    subst hY
    unfold actN actB at *
    by_cases q : n = 24
    · rw [if_pos q] at hi ⊢
      rw [if_pos q]
      by_cases q2 : i = 23
      · rw [if_pos q2]
        refine ⟨gk, ?_⟩
        rw [show 2 + ((p + 1) % 24 + 24 - 24 + i) % 24 = 2 + p by omega]
        exact hnew
      · rw [if_neg q2]
        refine ⟨(a4 X rfl (i + 1) (by omega)).1, ?_⟩
        have := (a4 X rfl (i + 1) (by omega)).2
        rw [show 2 + ((p + 1) % 24 + 24 - 24 + i) % 24 = 2 + (p + 24 - n + (i + 1)) % 24 by omega]
        exact hold _ _ (by omega) this
    · rw [if_neg q] at hi ⊢
      rw [if_neg q]
      by_cases q2 : i = n
      · rw [if_pos q2]
        refine ⟨gk, ?_⟩
        rw [show 2 + ((p + 1) % 24 + 24 - (n + 1) + i) % 24 = 2 + p by omega]
        exact hnew
      · rw [if_neg q2]
        refine ⟨(a4 X rfl i (by omega)).1, ?_⟩
        have := (a4 X rfl i (by omega)).2
        rw [show 2 + ((p + 1) % 24 + 24 - (n + 1) + i) % 24 = 2 + (p + 24 - n + i) % 24 by omega]
        exact hold _ _ (by omega) this
