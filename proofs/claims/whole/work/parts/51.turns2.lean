-- BYTURNS, the reference
def cw (w : Nat) (tab : Nat → Int32) (s t : Nat) : Int32 := if w = 1 then mx tab s t else mn tab s t
theorem r_cho_l {M : gh_M} {nt s w : Nat} {tab : Nat → Int32} {Q : Int32 → gh_M → Prop} (hn : nt ≤ 5) (hs : s < 2 ^ nt) (hw : w ≤ 1) (e1 : M 33 0 1 = nI nt) (hM : ∀ j, j < 2 ^ nt → M 43 0 j = tab j) (hQ : Q (cw w tab s nt) M) :
    ∀ r t, t + r = nt → wl_X7_chosen_10 Q (r + 1) (nI s) (nI w) (cw w tab s t) (nI t) M := by
  have p32 := p2le hn
  intro r
  induction r with
  | zero =>
    intro t ht
    have : t = nt := by omega
    subst this
    unfold wl_X7_chosen_10
    rw [nI_clamp (n := 1) (by omega), e1]
    exact ⟨vp_in_nI (by omega) (by omega), fun _ => hQ, fun h => absurd (Int32.le_refl _) h⟩
  | succ r ih =>
    intro t ht
    unfold wl_X7_chosen_10
    rw [nI_clamp (n := 1) (by omega), e1, bt_xo t (by omega) s (by omega)]
    refine ⟨vp_in_nI (by omega) (by omega), fun h => absurd h (nI_ge (by omega) (by omega)), fun _ => ?_⟩
    unfold wp_X7_has
    rw [bt_has t (by omega) s (by omega)]
    have IH := ih (t + 1) (by omega)
    have pt := p2pos t
    have : w = 0 ∨ w = 1 := by omega
    rcases this with rfl | rfl
    · have e : cw 0 tab s (t + 1) = if bt s t = true then (if tab (s - 2 ^ t) < mn tab s t then tab (s - 2 ^ t) else mn tab s t) else mn tab s t := rfl
      have e' : cw 0 tab s t = mn tab s t := rfl
      rw [e] at IH
      rw [e']
      refine ⟨fun q => ⟨fun _ => ?_, fun z => absurd rfl z⟩, fun q => ⟨fun z => absurd z (by decide), fun _ => ?_⟩⟩
      · rintro _ rfl
        rw [nI_add]
        rw [if_neg q] at IH
        exact IH
      · have hle := bt_dn t (by omega) s (by omega) q
        rw [if_pos q, nI_clamp (by omega), hM (s - 2 ^ t) (by omega)]
        rw [if_pos q] at IH
        refine ⟨vp_in_nI (by omega) (by omega), ?_⟩
        rintro _ rfl
        refine ⟨fun g => ⟨fun z => absurd rfl z, fun _ => ?_⟩, fun g => ⟨fun _ => ?_, fun z => absurd z (by decide)⟩⟩
        · rintro _ rfl
          rw [nI_add]
          by_cases g2 : tab (s - 2 ^ t) < mn tab s t
          · rw [if_pos g2] at IH; exact IH
          · rw [if_neg g2] at IH
            rw [Int32.le_antisymm g (Int32.not_lt.mp g2)]
            exact IH
        · rintro _ rfl
          rw [nI_add]
          rw [if_neg (fun z => g (Int32.le_of_lt z))] at IH
          exact IH
    · have e : cw 1 tab s (t + 1) = if bt s t = true then mx tab s t else if mx tab s t < tab (s + 2 ^ t) then tab (s + 2 ^ t) else mx tab s t := rfl
      have e' : cw 1 tab s t = mx tab s t := rfl
      rw [e] at IH
      rw [e']
      refine ⟨fun q => ⟨fun z => absurd z (by decide), fun _ => ?_⟩, fun q => ⟨fun _ => ?_, fun z => absurd rfl z⟩⟩
      · have hlt := bt_up nt (by omega) t (by omega) s hs (by simpa using q)
        rw [if_neg q, nI_clamp (by omega), hM (s + 2 ^ t) hlt]
        rw [if_neg q] at IH
        refine ⟨vp_in_nI (by omega) (by omega), ?_⟩
        rintro _ rfl
        refine ⟨fun g => ⟨fun _ => ?_, fun z => absurd z (by decide)⟩, fun g => ⟨fun z => absurd rfl z, fun _ => ?_⟩⟩
        · rintro _ rfl
          rw [nI_add]
          rw [if_neg (Int32.not_lt.mpr g)] at IH
          exact IH
        · rintro _ rfl
          rw [nI_add]
          rw [if_pos (Int32.not_le.mp g)] at IH
          exact IH
      · rintro _ rfl
        rw [nI_add]
        rw [if_pos q] at IH
        exact IH
theorem r_cho {M : gh_M} {nt s w : Nat} {tab : Nat → Int32} {Q : Int32 → gh_M → Prop} (hn : nt ≤ 5) (hs : s < 2 ^ nt) (hw : w ≤ 1) (e1 : M 33 0 1 = nI nt) (hM : ∀ j, j < 2 ^ nt → M 43 0 j = tab j) (hQ : Q (cw w tab s nt) M) : wp_X7_chosen (nI s) (nI w) M Q := by
  have p32 := p2le hn
  unfold wp_X7_chosen
  rw [nI_clamp (by omega), hM s hs]
  refine ⟨vp_in_nI (by omega) (by omega), ?_⟩
  rintro _ rfl
  refine ⟨nt + 1, ?_⟩
  have := r_cho_l (Q := Q) hn hs hw e1 hM hQ nt 0 (by omega)
  have e : cw w tab s 0 = tab s := by unfold cw; split <;> rfl
  rw [e] at this
  exact this
theorem r_cpy_l {M1 : gh_M} {nt : Nat} {x3 : Int32} {Q : Int32 → gh_M → Prop} {K : Int32 → gh_M → Prop} (hn : nt ≤ 5) (e1 : M1 33 0 1 = nI nt) (hQ : ∀ M', (∀ j, j < 2 ^ nt → M' 43 0 j = M1 44 0 j) → (∀ a b i, a ≠ 43 → M' a b i = M1 a b i) → K (x3 + (-1 : Int32)) M') :
    ∀ r s (M : gh_M), s + r = 2 ^ nt → (∀ j, j < s → M 43 0 j = M1 44 0 j) → (∀ a b i, a ≠ 43 → M a b i = M1 a b i) → wl_X7_byTurns_129 Q K (r + 1) x3 (nI s) M := by
  have p32 := p2le hn
  have pp := p2pos nt
  intro r
  induction r with
  | zero =>
    intro s M hs h1 h2
    unfold wl_X7_byTurns_129 wp_X7_allTricks
    rw [nI_clamp (n := 1) (by omega), h2 33 0 1 (by omega), e1, p21 _ (by omega)]
    have : s = 2 ^ nt := by omega
    subst this
    refine ⟨vp_in_nI (by omega) (by omega), fun _ => ?_, fun h => absurd (nI_lt (by omega) (by omega)) h⟩
    rintro _ rfl
    exact hQ M h1 h2
  | succ r ih =>
    intro s M hs h1 h2
    unfold wl_X7_byTurns_129 wp_X7_allTricks
    rw [nI_clamp (n := 1) (by omega), h2 33 0 1 (by omega), e1, p21 _ (by omega), nI_clamp (n := s) (by omega)]
    refine ⟨vp_in_nI (by omega) (by omega), fun h => absurd h (nI_nlt (by omega) (by omega)), fun _ => ⟨vp_in_nI (by omega) (by omega), vp_in_nI (by omega) (by omega), ?_⟩⟩
    rintro _ rfl _ rfl
    rw [nI_add]
    refine ih (s + 1) _ (by omega) (fun j hj => ?_) (fun a b i q => by rw [zb_k _ _ _ _ _ _ q]; exact h2 a b i q)
    by_cases q : j = s
    · subst q; rw [zb_s, h2 44 0 j (by omega)]
    · rw [zb_j _ _ _ _ q]; exact h1 j (by omega)
theorem r_stp_l {M0 : gh_M} {nt x : Nat} {tab : Nat → Int32} {Q : Int32 → gh_M → Prop} {K : Int32 → gh_M → Prop} (hn : nt ≤ 5) (hx : x ≤ 4) (e1 : M0 33 0 1 = nI nt) (hM : ∀ j, j < 2 ^ nt → M0 43 0 j = tab j) (hQ : ∀ M', (∀ j, j < 2 ^ nt → M' 43 0 j = stp nt x tab j) → (∀ a b i, a ≠ 43 → a ≠ 44 → M' a b i = M0 a b i) → K (nI x + (-1 : Int32)) M') :
    ∀ r s (M : gh_M), s + r = 2 ^ nt → (∀ j, j < s → M 44 0 j = stp nt x tab j) → (∀ a b i, a ≠ 44 → M a b i = M0 a b i) → wl_X7_byTurns_87 Q K (r + 1) (nI x) (nI s) M := by
  have p32 := p2le hn
  have pp := p2pos nt
  intro r
  induction r with
  | zero =>
    intro s M hs h1 h2
    unfold wl_X7_byTurns_87 wp_X7_allTricks
    rw [nI_clamp (n := 1) (by omega), h2 33 0 1 (by omega), e1, p21 _ (by omega)]
    have : s = 2 ^ nt := by omega
    subst this
    refine ⟨vp_in_nI (by omega) (by omega), fun _ => ⟨2 ^ nt + 1, ?_⟩, fun h => absurd (nI_lt (by omega) (by omega)) h⟩
    refine r_cpy_l (M1 := M) hn ((h2 33 0 1 (by omega)).trans e1) (fun M' g1 g2 => hQ M' (fun j hj => (g1 j hj).trans (h1 j hj)) (fun a b i q1 q2 => (g2 a b i q1).trans (h2 a b i q2))) (2 ^ nt) 0 M (by omega) (fun j hj => by omega) (fun _ _ _ _ => rfl)
  | succ r ih =>
    intro s M hs h1 h2
    unfold wl_X7_byTurns_87
    unfold wp_X7_allTricks
    rw [nI_clamp (n := 1) (by omega), h2 33 0 1 (by omega), e1, p21 _ (by omega), md2 x (by omega), nI_clamp (n := s) (by omega)]
    refine ⟨vp_in_nI (by omega) (by omega), fun h => absurd h (nI_nlt (by omega) (by omega)), fun _ => ⟨by decide, ?_⟩⟩
    have nxt : ∀ v, v = stp nt x tab s → ∀ M4, M4 = gh_st M 44 0 s v → ∀ y, y = nI s + nI 1 → wl_X7_byTurns_87 Q K (r + 1) (nI x) y M4 := by
      rintro v ev _ rfl _ rfl
      rw [nI_add]
      refine ih (s + 1) _ (by omega) (fun j hj => ?_) (fun a b i q => by rw [zb_k _ _ _ _ _ _ q]; exact h2 a b i q)
      by_cases q : j = s
      · subst q; rw [zb_s]; exact ev
      · rw [zb_j _ _ _ _ q]; exact h1 j (by omega)
    refine ⟨fun q => ?_, fun q => ?_⟩
    · exact r_cho (w := 0) hn (by omega) (by omega) ((h2 33 0 1 (by omega)).trans e1) (fun j hj => (h2 43 0 j (by omega)).trans (hM j hj)) ⟨vp_in_nI (by omega) (by omega), nxt _ (by unfold stp; rw [if_neg q]; rfl)⟩
    · exact r_cho (w := 1) hn (by omega) (by omega) ((h2 33 0 1 (by omega)).trans e1) (fun j hj => (h2 43 0 j (by omega)).trans (hM j hj)) ⟨vp_in_nI (by omega) (by omega), nxt _ (by unfold stp; rw [if_pos q]; rfl)⟩
theorem r_turn_l {M0 : gh_M} {S : SS} {X : TR} (hR0 : RS M0 S) (hn24 : S.2.2.2.2.2.1.1 ≤ 24) (hX : S.2.2.2.2.1 = some X) (hk : trOK X) {Q : Int32 → gh_M → Prop} {s : Nat} (hs : s < 2 ^ X.2.1.2.1) (es : sp_on X.1 X.2.1.2.1 = nI s) :
    ∀ (x : Nat) (tab : Nat → Int32) (M : gh_M), x ≤ 4 → fs M0 M → (∀ j, j < 2 ^ X.2.1.2.1 → M 43 0 j = tab j) → (∀ M', fs M0 M' → Q (btT X.2.1.2.1 tab x s) M') → wl_X7_byTurns_80 Q (x + 1) (nI x + (-1 : Int32)) M := by
  have b1 := hk.hd.2.2.2.2.1
  have p32 := p2le b1
  intro x
  induction x with
  | zero =>
    intro tab M hx hf hM hQ
    have hR := hR0.fs hf hn24
    unfold wl_X7_byTurns_80
    rw [nI_m1v]
    refine ⟨fun _ => ?_, fun h => absurd (by decide) h⟩
    refine r_onSet (x := 0) (by omega) (hR.trn hX) hk.hd.2.1 b1 ?_
    rw [es, nI_clamp (by omega)]
    refine ⟨vp_in_nI (by omega) (by omega), ?_⟩
    rw [hM s hs]
    exact hQ M hf
  | succ x ih =>
    intro tab M hx hf hM hQ
    have hR := hR0.fs hf hn24
    unfold wl_X7_byTurns_80
    rw [nI_dec]
    refine ⟨fun h => absurd h (nI_pos (by omega)), fun _ => ⟨2 ^ X.2.1.2.1 + 1, ?_⟩⟩
    refine r_stp_l (M0 := M) (nt := X.2.1.2.1) (tab := tab) b1 (by omega) (((hR.trn hX).at0 (i := 1) (by omega) rfl).trans hk.hd.2.1) hM (fun M2 g1 g2 => ?_) (2 ^ X.2.1.2.1) 0 M (by omega) (fun j hj => by omega) (fun _ _ _ _ => rfl)
    exact ih (stp X.2.1.2.1 x tab) M2 (by omega) (hf.tr (fun a b i q1 q2 q3 => g2 a b i (by omega) (by omega))) g1 hQ
section RK
variable {M : gh_M} {S : SS} {X : TR} {T : TT} {Q : gh_M → Prop}
theorem r_begK (hR : RS M S) (hX : S.2.2.2.2.1 = some X) (hk : trOK X) (hQ : ∀ M', fs M M' → trd M' X X.1 → (∀ j, M' 43 0 j = M 43 0 j) → Q M') : wp_X7_beginTry M Q := by
  have b2 := hk.hd.2.2.2.2.2.1
  have hr := hR.trn hX
  unfold wp_X7_beginTry
  refine r_copyRow (x := 0) (y := 1917) (by omega) (by omega) (by omega) (fun M1 h1 h2 => ?_)
  refine r_rank (fun M2 h3 h4 => ?_)
  unfold wp_X7_noHowls
  rintro _ rfl
  refine ⟨7, r_noH_l (fun M3 h5 h6 => ?_) 6 0 _ (by omega) (fun i hi => by omega) (fun _ _ _ _ => rfl)⟩
  have e34 : ∀ k, k < 6 → M3 34 0 k = nI k := fun k hk => by rw [h6 34 0 k (by omega), zb_k _ _ _ _ _ _ (by omega)]; exact h3 k hk
  refine hQ M3 (fun a b i g1 g2 g3 => ?_) ⟨fun i hi => ?_, ⟨fun c hc => ?_, ?_⟩, fun k hk => ⟨e34 k (by omega), hk⟩⟩ (fun j => ?_)
  · rw [h6 a b i (by omega), zb_st, if_neg (by omega), h4 a b i (by omega), h2 a b i (by omega)]
  · rw [h6 33 0 _ (by omega), zb_k _ _ _ _ _ _ (by omega), h4 33 0 _ (by omega), h1 i hi]
    exact hr i hi
  · rw [h5 c hc]
    exact (Int32.sub_self _).symm
  · rw [h6 32 0 5 (by omega), zb_s]
    exact (Int32.add_left_neg _).symm
  · rw [h6 43 0 j (by omega), zb_k _ _ _ _ _ _ (by omega), h4 43 0 j (by omega), h2 43 0 j (by omega)]
theorem r_runK {N : Nat} (hN : N ≤ 60) (hh : hdk T X.2) (t : trd M X T) (hQ : ∀ M', fs M M' → trd M' X (run X.2 N T) → (∀ j, M' 43 0 j = M 43 0 j) → Q M') : wp_X7_goOn (nI N) M Q :=
  r_goOn (pc := X.2.2) (nt := X.2.1.2.1) (nc := X.2.1.1) hN hh t (fun M' t' f g => hQ M' f t' (fun j => g 43 0 j (by omega) (by omega) (by omega)))
theorem r_swK_l {M0 : gh_M} {X : TR} {T : TT} {v : Int32} (h1 : M0 33 0 1 = nI X.2.1.2.1) (b1 : X.2.1.2.1 ≤ 5) (b2 : X.2.1.2.2 ≤ 6) {Q : gh_M → Prop} (hQ : ∀ M', fs M0 M' → trd M' X (sp_sw T v X.2.1.2.1) → (∀ j, M' 43 0 j = M0 43 0 j) → Q M') :
    ∀ (r n : Nat) (M : gh_M), n + r = X.2.1.2.1 → fs M0 M → trd M X (sp_sw T v n) → (∀ j, M 43 0 j = M0 43 0 j) → wl_X7_switchAll_2 Q (r + 1) v (nI n) M := by
  intro r
  induction r with
  | zero =>
    intro n M hn hf t h43
    unfold wl_X7_switchAll_2
    rw [nI_clamp (by omega), hf 33 0 1 (by omega) (by omega) (by omega), h1]
    have : n = X.2.1.2.1 := by omega
    subst this
    exact ⟨vp_in_nI (by omega) (by omega), fun _ => hQ M hf t h43, fun h => absurd (Int32.le_refl _) h⟩
  | succ r ih =>
    intro n M hn hf t h43
    unfold wl_X7_switchAll_2
    rw [nI_clamp (n := 1) (by omega), hf 33 0 1 (by omega) (by omega) (by omega), h1]
    refine ⟨vp_in_nI (by omega) (by omega), fun h => absurd h (nI_ge (by omega) (by omega)), fun _ => ?_⟩
    unfold wp_X7_trickAt wp_X7_has
    have nxt : ∀ w, sp_b v n = w → fs M (gh_st M 33 0 (1917 + 4 + 5 * n + 3) w) ∧ trd (gh_st M 33 0 (1917 + 4 + 5 * n + 3) w) X (sp_sw T v (n + 1)) := fun w e => by
      obtain ⟨t3, k3⟩ := t.st (q := 1917 + 4 + 5 * n + 3) (i := 4 + 5 * n + 3) (v := w) (by omega) (by omega) (fun c hc => by omega) b2
      refine ⟨k3, ?_⟩
      show trd _ X (upd (sp_sw T v n) (4 + 5 * n + 3) (sp_b v n))
      rw [e]
      exact t3
    refine ⟨fun h => ?_, fun h => ?_⟩
    · simp only [z0, not_true_eq_false, t01, false_implies, true_and, and_true]
      simp (disch := omega) only [nI_add, pk_mul, nI_clamp, zb_in, true_and]
      rintro M3 rfl y rfl
      obtain ⟨k3, t3⟩ := nxt (nI 0) (if_neg h)
      exact ih (n + 1) _ (by omega) (hf.tr k3) t3 (fun j => by rw [zb_k _ _ _ _ _ _ (by omega)]; exact h43 j)
    · simp only [z1, not_false_eq_true, t01, false_implies, true_and, and_true]
      simp (disch := omega) only [nI_add, pk_mul, nI_clamp, zb_in, true_and]
      rintro M3 rfl y rfl
      obtain ⟨k3, t3⟩ := nxt (nI 1) (if_pos h)
      exact ih (n + 1) _ (by omega) (hf.tr k3) t3 (fun j => by rw [zb_k _ _ _ _ _ _ (by omega)]; exact h43 j)
theorem r_swK {v : Int32} (h1 : M 33 0 1 = nI X.2.1.2.1) (hk : trOK X) (t : trd M X T) (hQ : ∀ M', fs M M' → trd M' X (sp_sw T v X.2.1.2.1) → (∀ j, M' 43 0 j = M 43 0 j) → Q M') : wp_X7_switchAll v M Q :=
  ⟨X.2.1.2.1 + 1, r_swK_l h1 hk.hd.2.2.2.2.1 hk.hd.2.2.2.2.2.1 hQ X.2.1.2.1 0 M (by omega) fs.refl t (fun _ => rfl)⟩
end RK
theorem r_tab_l {M0 : gh_M} {S : SS} {X : TR} {N x : Nat} (hR0 : RS M0 S) (hn24 : S.2.2.2.2.2.1.1 ≤ 24) (hX : S.2.2.2.2.1 = some X) (hk : trOK X) (hN : N ≤ 60) (hx : x ≤ 4) {Q : Int32 → gh_M → Prop} {s : Nat} (hs : s < 2 ^ X.2.1.2.1) (es : sp_on X.1 X.2.1.2.1 = nI s) (hQ : ∀ M', fs M0 M' → Q (btT X.2.1.2.1 (tab0 X N) x s) M') :
    ∀ r m (M : gh_M), m + r = 2 ^ X.2.1.2.1 → fs M0 M → (∀ j, j < m → M 43 0 j = tab0 X N j) → wl_X7_byTurns_34 Q (r + 1) (nI x) (nI N) (nI m) M := by
  have b1 := hk.hd.2.2.2.2.1
  have b2 := hk.hd.2.2.2.2.2.1
  have p32 := p2le b1
  have pp := p2pos X.2.1.2.1
  intro r
  induction r with
  | zero =>
    intro m M hm hf h1
    have hR := hR0.fs hf hn24
    unfold wl_X7_byTurns_34 wp_X7_allTricks
    rw [nI_clamp (n := 1) (by omega), show M 33 0 1 = nI X.2.1.2.1 from ((hR.trn hX).at0 (i := 1) (by omega) rfl).trans hk.hd.2.1, p21 _ (by omega)]
    have : m = 2 ^ X.2.1.2.1 := by omega
    subst this
    refine ⟨vp_in_nI (by omega) (by omega), fun _ => ?_, fun h => absurd (nI_lt (by omega) (by omega)) h⟩
    rintro y rfl
    have e : nI x - nI 1 = nI x + (-1 : Int32) := Int32.sub_eq_add_neg _ _
    rw [e]
    exact ⟨x + 1, r_turn_l hR0 hn24 hX hk hs es x (tab0 X N) M hx hf h1 hQ⟩
  | succ r ih =>
    intro m M hm hf h1
    have hR := hR0.fs hf hn24
    unfold wl_X7_byTurns_34
    unfold wp_X7_allTricks
    have e1 : M 33 0 1 = nI X.2.1.2.1 := ((hR.trn hX).at0 (i := 1) (by omega) rfl).trans hk.hd.2.1
    rw [nI_clamp (n := 1) (by omega), e1, p21 _ (by omega)]
    refine ⟨vp_in_nI (by omega) (by omega), fun h => absurd h (nI_nlt (by omega) (by omega)), fun _ => ?_⟩
    refine r_begK hR hX hk (fun M2 k2 t2 q2 => r_swK ((k2 33 0 1 (by omega) (by omega) (by omega)).trans e1) hk t2 (fun M3 k3 t3 q3 => r_runK hN (hdk.sw hk.hd _) t3 (fun M4 k4 t4 q4 => ?_)))
    refine r_sumOf (x := 1917) (f := 5) (by omega) t4.1 (hdk.run (hdk.sw hk.hd _) N).2.2.1 b2 (by omega) ?_
    rw [nI_clamp (n := m) (by omega)]
    refine ⟨vp_in_nI (by omega) (by omega), ?_⟩
    rintro _ rfl _ rfl
    rw [nI_add]
    refine ih (m + 1) _ (by omega) (hf.tr (((k2.tr k3).tr k4).tr (fun a b i q1 q2 q3 => zb_k _ _ _ _ _ _ (by omega)))) (fun j hj => ?_)
    by_cases q : j = m
    · subst q; rw [zb_s]; rfl
    · rw [zb_j _ _ _ _ q, q4, q3, q2]; exact h1 j (by omega)
theorem L_byTurns {a0 a1 : Int32} {M : gh_M} {S : SS} (hC : CS M S) (hR : RS M S) : wp_X6_byTurns a0 a1 M (fun r1 M1 => wp_X7_byTurns a0 a1 M1 (fun r2 M2 => r1 = r2 ∧ OKn M2)) := by
  have hOK : OKn M := ⟨S, hC, hR⟩
  have hT := hC.2.2.2.2.2.2.1
  have hT2 := hR.2.2.2.2.2.1
  obtain ⟨e0, e1, e2, b0, b1, b2⟩ := hT.hd
  obtain ⟨f0, f1, f2⟩ := hT2.hd hT.ok
  unfold wp_X6_byTurns wp_X7_byTurns
  cases hX : S.2.2.2.2.1 with
  | none =>
    rw [hX] at e2 f0
    refine c_hasn e2 ?_
    simp only [z0, not_true_eq_false, t01, false_implies, true_and, and_true]
    refine r_hasn f0 ?_
    simp only [z0, not_true_eq_false, t01, false_implies, true_and, and_true]
    exact hOK
  | some X =>
    rw [hX] at e0 e1 e2 f0 f1 f2 b0 b1 b2
    obtain ⟨hk, hz, h19⟩ := hC.trn hX
    have o1 : 4 ≤ X.2.1.1 := hk.2.1
    have o3 := hk.2.2.2.1
    have p0 : 0 < onc (some X) := Nat.lt_of_lt_of_le (by omega) o1
    refine c_hasy e2 (by exact o3) (by omega) ?_
    simp only [z1, not_false_eq_true, t01, false_implies, true_and, and_true]
    rcases few a0 4 (by omega) with ⟨x, hx, rfl⟩ | ⟨hb, -⟩
    · refine w6y (nI_nlt (by omega) (by omega)) (nI_nlt hx (by omega)) ?_
      simp only [z1, not_false_eq_true, t01, false_implies, true_and, and_true]
      rcases zb_rng a1 1 20 (by omega) (by omega) with hb | hb | ⟨N, hN1, hN, rfl⟩
      · refine w6n (Or.inl hb) ?_
        simp only [z0, not_true_eq_false, t01, false_implies, true_and, and_true]
        refine r_hasy f0 p0 (by omega) ?_
        simp only [z1, not_false_eq_true, t01, false_implies, true_and, and_true]
        refine w7y (nI_nlt (by omega) (by omega)) (nI_nlt hx (by omega)) ?_
        simp only [z1, not_false_eq_true, t01, false_implies, true_and, and_true]
        refine w7n (Or.inl hb) ?_
        simp only [z0, not_true_eq_false, t01, false_implies, true_and, and_true]
        exact hOK
      · refine w6n (Or.inr hb.2) ?_
        simp only [z0, not_true_eq_false, t01, false_implies, true_and, and_true]
        refine r_hasy f0 p0 (by omega) ?_
        simp only [z1, not_false_eq_true, t01, false_implies, true_and, and_true]
        refine w7y (nI_nlt (by omega) (by omega)) (nI_nlt hx (by omega)) ?_
        simp only [z1, not_false_eq_true, t01, false_implies, true_and, and_true]
        refine w7n (Or.inr hb.2) ?_
        simp only [z0, not_true_eq_false, t01, false_implies, true_and, and_true]
        exact hOK
      · refine w6y (nI_nlt hN1 (by omega)) (nI_nlt hN (by omega)) ?_
        simp only [z1, not_false_eq_true, t01, false_implies, true_and, and_true]
        unfold wp_X2_switchingByTurns
        rw [show M 6 0 1 = nI X.2.1.2.1 from e1, p2 _ (by have : X.2.1.2.1 ≤ 5 := b1; omega)]
        rintro y rfl
        have hon := sp_on_nat X.1 X.2.1.2.1 b1 hz.wf.2.1
        refine ⟨2 ^ X.2.1.2.1 + 1, c_tab_l (M0 := M) (N := N) hX hk (by omega) hx (fun M3 s hC3 fr hs es => ?_) hon (2 ^ X.2.1.2.1) 0 M (by omega) hC fR.refl (fun j hj => by omega)⟩
        have hR3 := hR.fR fr hC.n24
        refine r_hasy (fr 33 0 (by omega) ▸ f0) p0 (by omega) ?_
        simp only [z1, not_false_eq_true, t01, false_implies, true_and, and_true]
        refine w7y (nI_nlt (by omega) (by omega)) (nI_nlt hx (by omega)) ?_
        simp only [z1, not_false_eq_true, t01, false_implies, true_and, and_true]
        refine w7y (nI_nlt hN1 (by omega)) (nI_nlt hN (by omega)) ?_
        simp only [z1, not_false_eq_true, t01, false_implies, true_and, and_true]
        exact ⟨2 ^ X.2.1.2.1 + 1, r_tab_l (M0 := M3) (N := N) hR3 hC.n24 hX hk (by omega) hx hs es (fun M4 k4 => ⟨rfl, S, hC3.fC k4.fC, hR3.fs k4 hC.n24⟩) (2 ^ X.2.1.2.1) 0 M3 (by omega) fs.refl (fun j hj => by omega)⟩
    · refine w6n hb ?_
      simp only [z0, not_true_eq_false, t01, false_implies, true_and, and_true]
      refine r_hasy f0 p0 (by omega) ?_
      simp only [z1, not_false_eq_true, t01, false_implies, true_and, and_true]
      refine w7n hb ?_
      simp only [z0, not_true_eq_false, t01, false_implies, true_and, and_true]
      exact hOK
