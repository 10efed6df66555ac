-- BYTURNS
def bt (s t : Nat) : Bool := decide (s / 2 ^ t % 2 = 1)
theorem bt_or : ∀ t, t < 5 → ∀ s, s < 32 → nI s ||| (nI 1 <<< (nI t &&& 31)) = nI (if bt s t = true then s else s + 2 ^ t) := by decide +kernel
theorem bt_an : ∀ t, t < 5 → ∀ s, s < 32 → nI s &&& ((nI 1 <<< (nI t &&& 31)) ^^^ (-1 : Int32)) = nI (if bt s t = true then s - 2 ^ t else s) := by decide +kernel
theorem bt_xo : ∀ t, t < 5 → ∀ s, s < 32 → nI s ^^^ (nI 1 <<< (nI t &&& 31)) = nI (if bt s t = true then s - 2 ^ t else s + 2 ^ t) := by decide +kernel
theorem bt_has : ∀ t, t < 5 → ∀ s, s < 32 → ((nI s >>> (nI t &&& 31)) &&& nI 1 = nI 1 ↔ bt s t = true) := by decide +kernel
theorem bt_up : ∀ n, n < 6 → ∀ t, t < n → ∀ s, s < 2 ^ n → bt s t = false → s + 2 ^ t < 2 ^ n := by decide +kernel
theorem bt_dn : ∀ t, t < 5 → ∀ s, s < 32 → bt s t = true → 2 ^ t ≤ s := by decide +kernel
def mx (tab : Nat → Int32) (s : Nat) : Nat → Int32
  | 0 => tab s
  | t + 1 => if bt s t = true then mx tab s t else if mx tab s t < tab (s + 2 ^ t) then tab (s + 2 ^ t) else mx tab s t
def mn (tab : Nat → Int32) (s : Nat) : Nat → Int32
  | 0 => tab s
  | t + 1 => if bt s t = true then (if tab (s - 2 ^ t) < mn tab s t then tab (s - 2 ^ t) else mn tab s t) else mn tab s t
theorem mx_ge (tab : Nat → Int32) (s : Nat) : ∀ t, tab s ≤ mx tab s t
  | 0 => Int32.le_refl _
  | t + 1 => by
    have := mx_ge tab s t
    unfold mx
    split
    · exact this
    · split
      · rename_i h; exact Int32.le_trans this (Int32.le_of_lt h)
      · exact this
theorem mn_le (tab : Nat → Int32) (s : Nat) : ∀ t, mn tab s t ≤ tab s
  | 0 => Int32.le_refl _
  | t + 1 => by
    have := mn_le tab s t
    unfold mn
    split
    · split
      · rename_i h; exact Int32.le_trans (Int32.le_of_lt h) this
      · exact this
    · exact this
def stp (nt x : Nat) (tab : Nat → Int32) (s : Nat) : Int32 := if x % 2 = 0 then mx tab s nt else mn tab s nt
def btT (nt : Nat) : (Nat → Int32) → Nat → (Nat → Int32)
  | tab, 0 => tab
  | tab, x + 1 => btT nt (stp nt x tab) x
/-- only the table changes -/
def f29 (M M' : gh_M) : Prop := ∀ a b, a ≠ 29 → M' a b = M a b
theorem f29.st {M M' : gh_M} (h : f29 M M') {j : Nat} {v : Int32} : f29 M (gh_st M' 29 0 j v) := fun a b q => by rw [zb_kr _ _ _ _ _ q]; exact h a b q
theorem cs29 {M M' : gh_M} {S : SS} (h : CS M S) (e : f29 M M') : CS M' S := h.ff (fun a b _ q => e a b (by omega)) (by
  have := h.1 28 (by omega)
  unfold bo at this ⊢
  rw [e 10 28 (by omega), e 18 28 (by omega)]
  exact this)
theorem c_mx_l {M : gh_M} {nt s : Nat} {tab : Nat → Int32} {Q : gh_M → Prop} {K : Int32 → Int32 → gh_M → Prop} (hn : nt ≤ 5) (hs : s < 2 ^ nt) (hM : ∀ j, s ≤ j → j < 2 ^ nt → M 29 0 j = tab j) (hK : K (nI nt) (nI (s + 1)) (gh_st M 29 0 s (mx tab s nt))) :
    ∀ r t, t + r = nt → wl_X2_switchOnForMost_19 Q K (r + 1) (nI nt) (nI s) (mx tab s t) (nI t) M := by
  have p32 := p2le hn
  intro r
  induction r with
  | zero =>
    intro t ht
    have : t = nt := by omega
    subst this
    unfold wl_X2_switchOnForMost_19
    rw [nI_clamp (by omega)]
    refine ⟨fun _ => ⟨vp_in_nI (by omega) (by omega), ?_⟩, fun h => absurd (Int32.le_refl _) h⟩
    rintro _ rfl _ rfl
    rw [nI_add]
    exact hK
  | succ r ih =>
    intro t ht
    unfold wl_X2_switchOnForMost_19
    rw [bt_or t (by omega) s (by omega)]
    refine ⟨fun h => absurd h (nI_ge (by omega) (by omega)), fun _ => ?_⟩
    have IH := ih (t + 1) (by omega)
    have e : mx tab s (t + 1) = if bt s t = true then mx tab s t else if mx tab s t < tab (s + 2 ^ t) then tab (s + 2 ^ t) else mx tab s t := rfl
    rw [e] at IH
    by_cases q : bt s t = true
    · rw [if_pos q] at IH ⊢
      rw [nI_clamp (by omega), hM s (by omega) hs, if_neg (Int32.not_lt.mpr (mx_ge tab s t))]
      refine ⟨vp_in_nI (by omega) (by omega), ?_⟩
      rintro _ rfl _ rfl
      rw [nI_add]
      exact IH
    · have hlt := bt_up nt (by omega) t (by omega) s hs (by simpa using q)
      have pt := p2pos t
      rw [if_neg q] at IH ⊢
      rw [nI_clamp (by omega), hM (s + 2 ^ t) (by omega) hlt]
      refine ⟨vp_in_nI (by omega) (by omega), ?_⟩
      rintro _ rfl _ rfl
      rw [nI_add]
      exact IH
theorem c_mxs_l {M0 : gh_M} {nt : Nat} {tab : Nat → Int32} {Q : gh_M → Prop} (hn : nt ≤ 5) (hQ : ∀ M', f29 M0 M' → (∀ j, j < 2 ^ nt → M' 29 0 j = mx tab j nt) → Q M') :
    ∀ r s (M : gh_M), s + r = 2 ^ nt → f29 M0 M → (∀ j, j < s → M 29 0 j = mx tab j nt) → (∀ j, s ≤ j → j < 2 ^ nt → M 29 0 j = tab j) → wl_X2_switchOnForMost_2 Q (r + 1) (nI nt) (nI s) M := by
  have p32 := p2le hn
  intro r
  induction r with
  | zero =>
    intro s M hs hf h1 h2
    unfold wl_X2_switchOnForMost_2
    rw [p2 _ (by omega)]
    have : s = 2 ^ nt := by omega
    subst this
    exact ⟨fun _ => hQ M hf h1, fun h => absurd (Int32.le_refl _) h⟩
  | succ r ih =>
    intro s M hs hf h1 h2
    unfold wl_X2_switchOnForMost_2
    rw [p2 _ (by omega), nI_clamp (by omega)]
    refine ⟨fun h => absurd h (nI_ge (by omega) (by omega)), fun _ => ⟨vp_in_nI (by omega) (by omega), ?_⟩⟩
    rintro _ rfl
    refine ⟨nt + 1, ?_⟩
    rw [h2 s (by omega) (by omega)]
    refine c_mx_l (tab := tab) hn (by omega) h2 ?_ nt 0 (by omega)
    refine ih (s + 1) _ (by omega) hf.st (fun j hj => ?_) (fun j hj hj2 => ?_)
    · by_cases q : j = s
      · subst q; rw [zb_s]
      · rw [zb_j _ _ _ _ q]; exact h1 j (by omega)
    · rw [zb_j _ _ _ _ (by omega)]; exact h2 j (by omega) hj2
theorem c_mn_l {M : gh_M} {nt s : Nat} {tab : Nat → Int32} {Q : gh_M → Prop} {K : Int32 → Int32 → gh_M → Prop} (hn : nt ≤ 5) (hs : s < 2 ^ nt) (hM : ∀ j, j ≤ s → M 29 0 j = tab j) (hK : K (nI nt) (nI s + (-1 : Int32)) (gh_st M 29 0 s (mn tab s nt))) :
    ∀ r t, t + r = nt → wl_X2_switchOffForFewest_20 Q K (r + 1) (nI nt) (nI s) (mn tab s t) (nI t) M := by
  have p32 := p2le hn
  intro r
  induction r with
  | zero =>
    intro t ht
    have : t = nt := by omega
    subst this
    unfold wl_X2_switchOffForFewest_20
    rw [nI_clamp (by omega)]
    refine ⟨fun _ => ⟨vp_in_nI (by omega) (by omega), ?_⟩, fun h => absurd (Int32.le_refl _) h⟩
    rintro _ rfl _ rfl
    exact hK
  | succ r ih =>
    intro t ht
    unfold wl_X2_switchOffForFewest_20
    rw [bt_an t (by omega) s (by omega)]
    refine ⟨fun h => absurd h (nI_ge (by omega) (by omega)), fun _ => ?_⟩
    have IH := ih (t + 1) (by omega)
    have e : mn tab s (t + 1) = if bt s t = true then (if tab (s - 2 ^ t) < mn tab s t then tab (s - 2 ^ t) else mn tab s t) else mn tab s t := rfl
    rw [e] at IH
    by_cases q : bt s t = true
    · have hle := bt_dn t (by omega) s (by omega) q
      have pt := p2pos t
      rw [if_pos q] at IH ⊢
      rw [nI_clamp (by omega), hM (s - 2 ^ t) (by omega)]
      refine ⟨vp_in_nI (by omega) (by omega), ?_⟩
      rintro _ rfl _ rfl
      rw [nI_add]
      exact IH
    · rw [if_neg q] at IH ⊢
      rw [nI_clamp (by omega), hM s (by omega), if_neg (Int32.not_lt.mpr (mn_le tab s t))]
      refine ⟨vp_in_nI (by omega) (by omega), ?_⟩
      rintro _ rfl _ rfl
      rw [nI_add]
      exact IH
theorem nI_m1v : nI 0 + (-1 : Int32) = -1 := by decide
theorem c_mns_l {M0 : gh_M} {nt : Nat} {tab : Nat → Int32} {Q : gh_M → Prop} (hn : nt ≤ 5) (hQ : ∀ M', f29 M0 M' → (∀ j, j < 2 ^ nt → M' 29 0 j = mn tab j nt) → Q M') :
    ∀ s (M : gh_M), s ≤ 2 ^ nt → f29 M0 M → (∀ j, s ≤ j → j < 2 ^ nt → M 29 0 j = mn tab j nt) → (∀ j, j < s → M 29 0 j = tab j) → wl_X2_switchOffForFewest_6 Q (s + 1) (nI nt) (nI s + (-1 : Int32)) M := by
  have p32 := p2le hn
  intro s
  induction s with
  | zero =>
    intro M hs hf h1 h2
    unfold wl_X2_switchOffForFewest_6
    rw [nI_m1v]
    exact ⟨fun _ => hQ M hf (fun j hj => h1 j (by omega) hj), fun h => absurd (by decide) h⟩
  | succ s ih =>
    intro M hs hf h1 h2
    unfold wl_X2_switchOffForFewest_6
    rw [nI_dec, nI_clamp (by omega)]
    refine ⟨fun h => absurd h (nI_pos (by omega)), fun _ => ⟨vp_in_nI (by omega) (by omega), ?_⟩⟩
    rintro _ rfl
    refine ⟨nt + 1, ?_⟩
    rw [h2 s (by omega)]
    refine c_mn_l (tab := tab) hn (by omega) (fun j hj => h2 j (by omega)) ?_ nt 0 (by omega)
    refine ih _ (by omega) hf.st (fun j hj hj2 => ?_) (fun j hj => ?_)
    · by_cases q : j = s
      · subst q; rw [zb_s]
      · rw [zb_j _ _ _ _ q]; exact h1 j (by omega) hj2
    · rw [zb_j _ _ _ _ (by omega)]; exact h2 j (by omega)
theorem c_step {M : gh_M} {nt : Nat} {tab : Nat → Int32} {Q : gh_M → Prop} (hn : nt ≤ 5) (hM : ∀ j, j < 2 ^ nt → M 29 0 j = tab j) :
    ((∀ M', f29 M M' → (∀ j, j < 2 ^ nt → M' 29 0 j = mx tab j nt) → Q M') → wp_X2_switchOnForMost (nI nt) M Q) ∧ ((∀ M', f29 M M' → (∀ j, j < 2 ^ nt → M' 29 0 j = mn tab j nt) → Q M') → wp_X2_switchOffForFewest (nI nt) M Q) := by
  have pp := p2pos nt
  refine ⟨fun hQ => ⟨2 ^ nt + 1, c_mxs_l hn hQ (2 ^ nt) 0 M (by omega) (fun _ _ _ => rfl) (fun j hj => by omega) (fun j _ hj => hM j hj)⟩, fun hQ => ?_⟩
  unfold wp_X2_switchOffForFewest
  rintro y rfl
  refine ⟨2 ^ nt + 1, ?_⟩
  have e : (nI 1 <<< (nI nt &&& 31)) - nI 1 = nI (2 ^ nt) + (-1 : Int32) := by rw [p2 _ (by omega)]; exact Int32.sub_eq_add_neg _ _
  rw [e]
  exact c_mns_l hn hQ (2 ^ nt) M (by omega) (fun _ _ _ => rfl) (fun j hj hj2 => by omega) (fun j hj => hM j hj)
theorem md2 : ∀ x, x < 5 → ((nI x - nI x / nI 2 * nI 2 = 0) ↔ x % 2 = 0) := by decide +kernel
theorem c_turn_l {M0 : gh_M} {S : SS} {X : TR} (hX : S.2.2.2.2.1 = some X) (hk : trOK X) {Q : Int32 → gh_M → Prop} :
    ∀ (x : Nat) (tab : Nat → Int32) (M : gh_M), x ≤ 4 → CS M S → fR M0 M → (∀ j, j < 2 ^ X.2.1.2.1 → M 29 0 j = tab j) → (∀ M' s, CS M' S → fR M0 M' → s < 2 ^ X.2.1.2.1 → sp_on X.1 X.2.1.2.1 = nI s → Q (btT X.2.1.2.1 tab x s) M') → (∃ s, s < 2 ^ X.2.1.2.1 ∧ sp_on X.1 X.2.1.2.1 = nI s) → wl_X2_switchingByTurns_68 0 Q (x + 1) (nI x + (-1 : Int32)) M := by
  have b1 := hk.hd.2.2.2.2.1
  have p32 := p2le b1
  intro x
  induction x with
  | zero =>
    intro tab M hx hC hf hM hQ hs
    obtain ⟨s, hs, es⟩ := hs
    unfold wl_X2_switchingByTurns_68
    rw [nI_m1v]
    refine ⟨fun _ => ?_, fun h => absurd (by decide) h⟩
    obtain ⟨-, hz, -⟩ := hC.trn hX
    refine c_on hz.cd hk.hd.2.1 b1 hz.wf ?_
    rw [es, nI_clamp (by omega)]
    refine ⟨vp_in_nI (by omega) (by omega), ?_⟩
    rw [hM s hs]
    exact hQ M s hC hf hs es
  | succ x ih =>
    intro tab M hx hC hf hM hQ hs
    unfold wl_X2_switchingByTurns_68
    rw [nI_dec, md2 x (by omega), show M 6 0 1 = nI X.2.1.2.1 from (hC.trn hX).2.1.cd.2.1.trans hk.hd.2.1]
    refine ⟨fun h => absurd h (nI_pos (by omega)), fun _ => ⟨by decide, fun q => ?_, fun q => ?_⟩⟩
    · refine (c_step b1 hM).2 (fun M2 f2 h2 => ?_)
      rintro y rfl
      refine ih (stp X.2.1.2.1 x tab) M2 (by omega) (cs29 hC f2) (hf.tr (fun a b q => f2 a b (by omega))) (fun j hj => ?_) hQ hs
      rw [h2 j hj]; unfold stp; rw [if_neg q]
    · refine (c_step b1 hM).1 (fun M2 f2 h2 => ?_)
      rintro y rfl
      refine ih (stp X.2.1.2.1 x tab) M2 (by omega) (cs29 hC f2) (hf.tr (fun a b q => f2 a b (by omega))) (fun j hj => ?_) hQ hs
      rw [h2 j hj]; unfold stp; rw [if_pos q]
def tab0 (X : TR) (N m : Nat) : Int32 := scr X N (sp_sw X.1 (nI m) X.2.1.2.1)
theorem c_tab_l {M0 : gh_M} {S : SS} {X : TR} {N x : Nat} (hX : S.2.2.2.2.1 = some X) (hk : trOK X) (hN : N ≤ 60) (hx : x ≤ 4) {Q : Int32 → gh_M → Prop} (hQ : ∀ M' s, CS M' S → fR M0 M' → s < 2 ^ X.2.1.2.1 → sp_on X.1 X.2.1.2.1 = nI s → Q (btT X.2.1.2.1 (tab0 X N) x s) M') (hs : ∃ s, s < 2 ^ X.2.1.2.1 ∧ sp_on X.1 X.2.1.2.1 = nI s) :
    ∀ r m (M : gh_M), m + r = 2 ^ X.2.1.2.1 → CS M S → fR M0 M → (∀ j, j < m → M 29 0 j = tab0 X N j) → wl_X2_switchingByTurns_11 0 Q (r + 1) (nI x) (nI N) (nI (2 ^ X.2.1.2.1)) (nI m) M := by
  have b1 := hk.hd.2.2.2.2.1
  have b2 := hk.hd.2.2.2.2.2.1
  have p32 := p2le b1
  intro r
  induction r with
  | zero =>
    intro m M hm hC hf h1
    unfold wl_X2_switchingByTurns_11
    have : m = 2 ^ X.2.1.2.1 := by omega
    subst this
    refine ⟨fun _ => ?_, fun h => absurd (Int32.le_refl _) h⟩
    rintro y rfl
    have e : nI x - nI 1 = nI x + (-1 : Int32) := Int32.sub_eq_add_neg _ _
    rw [e]
    exact ⟨x + 1, c_turn_l hX hk x (tab0 X N) M hx hC hf h1 hQ hs⟩
  | succ r ih =>
    intro m M hm hC hf h1
    unfold wl_X2_switchingByTurns_11
    refine ⟨fun h => absurd h (nI_ge (by omega) (by omega)), fun _ => ?_⟩
    refine y_copy hC hX (fun M2 g2 z2 => y_sw hk.hd z2 (fun M3 g3 z3 => y_for hN (by have := hk.2.1; omega) (hdk.sw hk.hd _) z3 (fun M4 T4 g4 z4 e4 => ?_)))
    have g5 := (g2.tr g3).tr g4
    have hC4 := cs_zf hC g5.ff z4
    refine c_scr z4.1.cd ((e4 2 (by omega)).trans (hdk.run (hdk.sw hk.hd _) N).2.2.1) b2 ?_
    rw [scr_e e4, nI_clamp (by omega)]
    refine ⟨vp_in_nI (by omega) (by omega), ?_⟩
    rintro _ rfl _ rfl
    rw [nI_add]
    refine ih (m + 1) _ (by omega) (cs29 hC4 (f29.st (fun _ _ _ => rfl))) (hf.tr (g5.fR.tr (fR.st fR.refl (by omega)))) (fun j hj => ?_)
    by_cases q : j = m
    · subst q; rw [zb_s]; rfl
    · rw [zb_j _ _ _ _ q, g5 29 0 (by omega)]; exact h1 j (by omega)
theorem sp_on_nat (T : TT) : ∀ n, n ≤ 5 → (∀ u, u < n → T (4 + 5 * u + 3) = nI 0 ∨ T (4 + 5 * u + 3) = nI 1) → ∃ s, s < 2 ^ n ∧ sp_on T n = nI s
  | 0, _, _ => ⟨0, by decide, rfl⟩
  | n + 1, h, hb => by
    obtain ⟨s, h1, h2⟩ := sp_on_nat T n (by omega) (fun u hu => hb u (by omega))
    have e2 : 2 ^ (n + 1) = 2 ^ n + 2 ^ n := by rw [Nat.pow_succ]; omega
    unfold sp_on
    rw [h2]
    rcases hb n (by omega) with q | q
    · rw [q, shl0 n (by omega), or_nI0]
      exact ⟨s, by omega, rfl⟩
    · rw [q, sb_or n (by omega) s h1]
      exact ⟨s + 2 ^ n, by omega, rfl⟩
