-- sums, sets, switching, going again, of the class
theorem c_sum17_l {M : gh_M} {t n : Nat} {g : Nat → Int32} (hn : n ≤ 6) (hg : ∀ i, i < n → M 17 t i = g i) {Q : Int32 → gh_M → Prop} (hQ : Q (bx_sum g n) M) :
    ∀ (r c : Nat), c + r = n → wl_X5_sum_k17_4 t Q (r + 1) (nI n) (bx_sum g c) (nI c) M := by
  intro r
  induction r with
  | zero =>
    intro c hc
    have e : c = n := by omega
    subst e
    unfold wl_X5_sum_k17_4
    exact ⟨fun _ => hQ, fun h => absurd (Int32.le_refl _) h⟩
  | succ r ih =>
    intro c hc
    unfold wl_X5_sum_k17_4
    simp (disch := omega) only [nI_add, nI_clamp, zb_in, true_and, hg, forall_eq]
    exact ⟨fun h => absurd h (nI_ge (by omega) (by omega)), fun _ => ⟨fun h => absurd h (nI_ge (by omega) (by omega)), fun _ => ih (c + 1) (by omega)⟩⟩
theorem c_sum17 {M : gh_M} {t n : Nat} {g : Nat → Int32} (hn : n ≤ 6) (hg : ∀ i, i < n → M 17 t i = g i) {Q : Int32 → gh_M → Prop} (hQ : Q (bx_sum g n) M) : wp_X5_sum_k17 t (nI n) M Q :=
  ⟨n + 1, c_sum17_l hn hg hQ n 0 (by omega)⟩
theorem c_sum16_l {M : gh_M} {t n : Nat} {g : Nat → Int32} (hn : n ≤ 6) (hg : ∀ i, i < n → M 16 t i = g i) {Q : Int32 → gh_M → Prop} (hQ : Q (bx_sum g n) M) :
    ∀ (r c : Nat), c + r = n → wl_X5_sum_k16_4 t Q (r + 1) (nI n) (bx_sum g c) (nI c) M := by
  intro r
  induction r with
  | zero =>
    intro c hc
    have e : c = n := by omega
    subst e
    unfold wl_X5_sum_k16_4
    exact ⟨fun _ => hQ, fun h => absurd (Int32.le_refl _) h⟩
  | succ r ih =>
    intro c hc
    unfold wl_X5_sum_k16_4
    simp (disch := omega) only [nI_add, nI_clamp, zb_in, true_and, hg, forall_eq]
    exact ⟨fun h => absurd h (nI_ge (by omega) (by omega)), fun _ => ⟨fun h => absurd h (nI_ge (by omega) (by omega)), fun _ => ih (c + 1) (by omega)⟩⟩
theorem c_sum16 {M : gh_M} {t n : Nat} {g : Nat → Int32} (hn : n ≤ 6) (hg : ∀ i, i < n → M 16 t i = g i) {Q : Int32 → gh_M → Prop} (hQ : Q (bx_sum g n) M) : wp_X5_sum_k16 t (nI n) M Q :=
  ⟨n + 1, c_sum16_l hn hg hQ n 0 (by omega)⟩
theorem c_sum11_l {M : gh_M} {t n : Nat} {g : Nat → Int32} (hn : n ≤ 5) (hg : ∀ i, i < n → M 11 t i = g i) {Q : Int32 → gh_M → Prop} (hQ : Q (bx_sum g n) M) :
    ∀ (r c : Nat), c + r = n → wl_X5_sum_k11_4 t Q (r + 1) (nI n) (bx_sum g c) (nI c) M := by
  intro r
  induction r with
  | zero =>
    intro c hc
    have e : c = n := by omega
    subst e
    unfold wl_X5_sum_k11_4
    exact ⟨fun _ => hQ, fun h => absurd (Int32.le_refl _) h⟩
  | succ r ih =>
    intro c hc
    unfold wl_X5_sum_k11_4
    simp (disch := omega) only [nI_add, nI_clamp, zb_in, true_and, hg, forall_eq]
    exact ⟨fun h => absurd h (nI_ge (by omega) (by omega)), fun _ => ⟨fun h => absurd h (nI_ge (by omega) (by omega)), fun _ => ih (c + 1) (by omega)⟩⟩
theorem c_sum11 {M : gh_M} {t n : Nat} {g : Nat → Int32} (hn : n ≤ 5) (hg : ∀ i, i < n → M 11 t i = g i) {Q : Int32 → gh_M → Prop} (hQ : Q (bx_sum g n) M) : wp_X5_sum_k11 t (nI n) M Q :=
  ⟨n + 1, c_sum11_l hn hg hQ n 0 (by omega)⟩
theorem c_scr {M : gh_M} {t nt na : Nat} {T : TT} (hd : cd M t T nt na) (h2 : T 2 = nI na) (ha : na ≤ 6) {Q : Int32 → gh_M → Prop} (hQ : Q (bx_sum (fun c => T (29 + 7 * c + 5)) na) M) : wp_X5_allScreams t M Q := by
  unfold wp_X5_allScreams
  rw [hd.2.2.1, h2]
  exact c_sum17 ha (fun i hi => hd.c5 hi) hQ
theorem c_fea {M : gh_M} {t nt na : Nat} {T : TT} (hd : cd M t T nt na) (h2 : T 2 = nI na) (ha : na ≤ 6) {Q : Int32 → gh_M → Prop} (hQ : Q (bx_sum (fun c => T (29 + 7 * c + 4)) na) M) : wp_X5_allFear t M Q := by
  unfold wp_X5_allFear
  rw [hd.2.2.1, h2]
  exact c_sum16 ha (fun i hi => hd.c4 hi) hQ
theorem c_met {M : gh_M} {t nt na : Nat} {T : TT} (hd : cd M t T nt na) (h1 : T 1 = nI nt) (hn : nt ≤ 5) {Q : Int32 → gh_M → Prop} (hQ : Q (bx_sum (fun u => T (4 + 5 * u + 4)) nt) M) : wp_X5_allMet t M Q := by
  unfold wp_X5_allMet
  rw [hd.2.1, h1]
  exact c_sum11 hn (fun i hi => hd.k4 hi) hQ
theorem c_btw_l {M : gh_M} {t nt na : Nat} {T : TT} (hd : cd M t T nt na) (h2 : T 2 = nI na) (ha : na ≤ 6) {lo hi : Int32} {p : Nat → Bool} (hp : ∀ c, c < na → (p c = true ↔ ¬ T (29 + 7 * c + 3) < lo ∧ ¬ hi < T (29 + 7 * c + 3))) {Q : Int32 → gh_M → Prop} (hQ : Q (sbit p na) M) :
    ∀ (r c : Nat), c + r = na → wl_X5_bitsBetween_5 t Q (r + 1) lo hi (sbit p c) (nI c) M := by
  have e2 : M 6 t 2 = nI na := hd.2.2.1.trans h2
  intro r
  induction r with
  | zero =>
    intro c hc
    have e : c = na := by omega
    subst e
    unfold wl_X5_bitsBetween_5
    simp only [e2]
    exact ⟨fun _ => hQ, fun h => absurd (Int32.le_refl _) h⟩
  | succ r ih =>
    intro c hc
    have yes : p c = true → wl_X5_bitsBetween_5 t Q (r + 1) lo hi (sbit p c ||| (nI 1 <<< (nI c &&& 31))) (nI (c + 1)) M := fun h => by
      have := ih (c + 1) (by omega)
      unfold sbit at this
      rw [if_pos h] at this
      exact this
    have no : ¬ p c = true → wl_X5_bitsBetween_5 t Q (r + 1) lo hi (sbit p c) (nI (c + 1)) M := fun h => by
      have := ih (c + 1) (by omega)
      unfold sbit at this
      rw [if_neg h] at this
      exact this
    unfold wl_X5_bitsBetween_5
    simp (disch := omega) only [wp_X6_within, nI_add, nI_clamp, zb_in, true_and, e2, hd.c3, forall_eq]
    have n10 : ¬ nI 1 = 0 := by decide
    have n00 : nI 0 = 0 := rfl
    refine ⟨fun h => absurd h (nI_ge (by omega) (by omega)), fun _ => ⟨fun g => ⟨fun _ => ?_, fun z => absurd n00 z⟩, fun g => ⟨fun g2 => ⟨fun _ => ?_, fun z => absurd n00 z⟩, fun g2 => ⟨fun z => absurd z n10, fun _ => ?_⟩⟩⟩⟩
    · exact no (fun q => ((hp c (by omega)).mp q).1 g)
    · exact no (fun q => ((hp c (by omega)).mp q).2 g2)
    · exact yes ((hp c (by omega)).mpr ⟨g, g2⟩)
theorem c_btw {M : gh_M} {t nt na : Nat} {T : TT} (hd : cd M t T nt na) (h2 : T 2 = nI na) (ha : na ≤ 6) {lo hi : Int32} {p : Nat → Bool} (hp : ∀ c, c < na → (p c = true ↔ ¬ T (29 + 7 * c + 3) < lo ∧ ¬ hi < T (29 + 7 * c + 3))) {Q : Int32 → gh_M → Prop} (hQ : Q (sbit p na) M) : wp_X5_bitsBetween t lo hi M Q :=
  ⟨na + 1, c_btw_l hd h2 ha hp hQ na 0 (by omega)⟩
theorem i_anti {x y : Int32} (h : ¬ x < y) (g : ¬ y < x) : x = y := Int32.le_antisymm (Int32.not_lt.mp g) (Int32.not_lt.mp h)
theorem c_out {M : gh_M} {t nt na : Nat} {T : TT} (hd : cd M t T nt na) (h2 : T 2 = nI na) (ha : na ≤ 6) {Q : Int32 → gh_M → Prop} (hQ : Q (sbit (sp_th T 3) na) M) : wp_X5_bitsOut t M Q := by
  unfold wp_X5_bitsOut
  refine c_btw hd h2 ha (p := sp_th T 3) (fun c hc => ?_) hQ
  unfold sp_th
  rw [if_neg (by decide), if_neg (by decide), decide_eq_true_eq]
  exact ⟨fun e => by rw [e]; decide, fun e => i_anti e.1 e.2⟩
theorem c_wait {M : gh_M} {t nt na : Nat} {T : TT} (hd : cd M t T nt na) (h2 : T 2 = nI na) (ha : na ≤ 6) {Q : Int32 → gh_M → Prop} (hQ : Q (sbit (sp_th T 1) na) M) : wp_X5_bitsWaiting t M Q := by
  unfold wp_X5_bitsWaiting
  refine c_btw hd h2 ha (p := sp_th T 1) (fun c hc => ?_) hQ
  unfold sp_th
  rw [if_pos rfl, decide_eq_true_eq]
  exact ⟨fun e => by rw [e]; decide, fun e => i_anti e.1 e.2⟩
theorem c_runs {M : gh_M} {t nt na nc : Nat} {T : TT} (hd : cd M t T nt na) (h2 : T 2 = nI na) (ha : na ≤ 6) (hw : wf T nc nt na) (hnc : nc ≤ 12) {Q : Int32 → gh_M → Prop} (hQ : Q (sbit (sp_th T 2) na) M) : wp_X5_bitsRunning t M Q := by
  unfold wp_X5_bitsRunning
  refine c_btw hd h2 ha (p := sp_th T 2) (fun c hc => ?_) hQ
  unfold sp_th
  rw [if_neg (by decide), if_pos rfl]
  rcases hw.2.2.2.1 c hc with ⟨j, hj, e⟩ | e | e
  · rw [e]
    have h1 := nI_20 (j := j) (by omega)
    have h3 : ¬ nI j < nI 0 := nI_nlt (by omega) (by omega)
    have h4 : ¬ nI 11 < nI j := nI_nlt (by omega) (by omega)
    simp [h1, h3, h4]
  · rw [e]; decide
  · rw [e]; decide
theorem c_on_l {M : gh_M} {t nt na nc : Nat} {T : TT} (hd : cd M t T nt na) (h1 : T 1 = nI nt) (hn : nt ≤ 5) (hw : wf T nc nt na) {Q : Int32 → gh_M → Prop} (hQ : Q (sp_on T nt) M) :
    ∀ (r c : Nat), c + r = nt → wl_X5_bitsOn_4 t Q (r + 1) (sp_on T c) (nI c) M := by
  have e1 : M 6 t 1 = nI nt := hd.2.1.trans h1
  intro r
  induction r with
  | zero =>
    intro c hc
    have e : c = nt := by omega
    subst e
    unfold wl_X5_bitsOn_4
    simp only [e1]
    exact ⟨fun _ => hQ, fun h => absurd (Int32.le_refl _) h⟩
  | succ r ih =>
    intro c hc
    unfold wl_X5_bitsOn_4
    simp (disch := omega) only [wp_X6_oneIf, nI_add, nI_clamp, zb_in, true_and, e1, hd.k3, forall_eq]
    have := ih (c + 1) (by omega)
    unfold sp_on at this
    refine ⟨fun h => absurd h (nI_ge (by omega) (by omega)), fun _ => ⟨fun g => ?_, fun g => ?_⟩⟩
    · rw [g] at this
      exact this
    · rcases hw.2.1 c (by omega) with q | q
      · exact absurd q g
      · rw [q] at this
        exact this
theorem c_on {M : gh_M} {t nt na nc : Nat} {T : TT} (hd : cd M t T nt na) (h1 : T 1 = nI nt) (hn : nt ≤ 5) (hw : wf T nc nt na) {Q : Int32 → gh_M → Prop} (hQ : Q (sp_on T nt) M) : wp_X5_bitsOn t M Q :=
  ⟨nt + 1, c_on_l hd h1 hn hw hQ nt 0 (by omega)⟩
theorem shl0 : ∀ t, t < 5 → nI 0 <<< (nI t &&& 31) = nI 0 := by decide
theorem c_in_l {M : gh_M} {t nt na : Nat} {T : TT} {v : Int32} (hd : cd M t T nt na) (h1 : T 1 = nI nt) (hn : nt ≤ 5) {Q : Int32 → gh_M → Prop} (hQ : Q (sbit (fun u => decide (T (4 + 5 * u + 1) = v)) nt) M) :
    ∀ (r c : Nat), c + r = nt → wl_X5_tricksIn_4 t Q (r + 1) v (sbit (fun u => decide (T (4 + 5 * u + 1) = v)) c) (nI c) M := by
  have e1 : M 6 t 1 = nI nt := hd.2.1.trans h1
  intro r
  induction r with
  | zero =>
    intro c hc
    have e : c = nt := by omega
    subst e
    unfold wl_X5_tricksIn_4
    simp only [e1]
    exact ⟨fun _ => hQ, fun h => absurd (Int32.le_refl _) h⟩
  | succ r ih =>
    intro c hc
    unfold wl_X5_tricksIn_4
    simp (disch := omega) only [wp_X6_oneIf, nI_add, nI_clamp, zb_in, true_and, e1, hd.k1, forall_eq, shl0, or_nI0]
    have := ih (c + 1) (by omega)
    unfold sbit at this
    refine ⟨fun h => absurd h (nI_ge (by omega) (by omega)), fun _ => ⟨fun g => ⟨fun _ => ?_, fun z => absurd rfl z⟩, fun g => ⟨fun z => absurd z (by decide), fun _ => ?_⟩⟩⟩
    · rw [if_neg (by simpa using g)] at this
      exact this
    · rw [if_pos (by simpa using g)] at this
      exact this
theorem c_in {M : gh_M} {t nt na : Nat} {T : TT} {v : Int32} (hd : cd M t T nt na) (h1 : T 1 = nI nt) (hn : nt ≤ 5) {Q : Int32 → gh_M → Prop} (hQ : Q (sbit (fun u => decide (T (4 + 5 * u + 1) = v)) nt) M) : wp_X5_tricksIn t v M Q :=
  ⟨nt + 1, c_in_l hd h1 hn hQ nt 0 (by omega)⟩
theorem r_in_l {M : gh_M} {nt : Nat} {T : TT} {v : Int32} (hr : rr M 0 T) (h1 : T 1 = nI nt) (hn : nt ≤ 5) {Q : Int32 → gh_M → Prop} (hQ : Q (sbit (fun u => decide (T (4 + 5 * u + 1) = v)) nt) M) :
    ∀ (r c : Nat), c + r = nt → wl_X7_tricksIn_4 Q (r + 1) v (sbit (fun u => decide (T (4 + 5 * u + 1) = v)) c) (nI c) M := by
  have e1 : M 33 0 1 = nI nt := (hr 1 (by omega)).trans h1
  intro r
  induction r with
  | zero =>
    intro c hc
    have e : c = nt := by omega
    subst e
    unfold wl_X7_tricksIn_4
    simp (disch := omega) only [nI_clamp, zb_in, true_and, e1]
    exact ⟨fun _ => hQ, fun h => absurd (Int32.le_refl _) h⟩
  | succ r ih =>
    intro c hc
    unfold wl_X7_tricksIn_4
    simp (disch := omega) only [wp_X7_trickAt, nI_add, pk_mul, nI_clamp, zb_in, true_and, e1, hr.a3, forall_eq, or_nI0]
    have := ih (c + 1) (by omega)
    unfold sbit at this
    refine ⟨fun h => absurd h (nI_ge (by omega) (by omega)), fun _ => ⟨fun g => ?_, fun g => ?_⟩⟩
    · rw [if_neg (by simpa using g)] at this
      exact this
    · rw [if_pos (by simpa using g)] at this
      exact this
theorem r_in {M : gh_M} {nt : Nat} {T : TT} {v : Int32} (hr : rr M 0 T) (h1 : T 1 = nI nt) (hn : nt ≤ 5) {Q : Int32 → gh_M → Prop} (hQ : Q (sbit (fun u => decide (T (4 + 5 * u + 1) = v)) nt) M) : wp_X7_tricksIn v M Q :=
  ⟨nt + 1, r_in_l hr h1 hn hQ nt 0 (by omega)⟩
-- a number of a trick, of a car becomes another
theorem cz.cong {M0 M M' : gh_M} {t nt na nc : Nat} {K I : Nat → Int32} {T T' : TT} (hX : cx M0 t nt na (nI (cnt T na)) I K M' T') (hI : icI I T nc na 7) (hw : wf T' nc nt na) (hW : ∀ c, c < na → T' (29 + 7 * c + 3) = T (29 + 7 * c + 3)) : cz M0 t nc nt na K M' T' := by
  refine ⟨I, ?_, fun j hj => ?_, hw⟩
  · have ec : cnt T' na = cnt T na := cnt_cong fun c hc => by unfold rn; rw [hW c hc]
    rw [ec]
    exact hX
  · rcases hI j hj with ⟨g1, g2⟩ | ⟨d, hd, hne, g1, g2⟩
    · exact Or.inl ⟨g1, fun c hc hne => by rw [hW c hc]; exact g2 c hc hne⟩
    · exact Or.inr ⟨d, hd, hne, by rw [hW d hd]; exact g1, g2⟩
theorem cz.K {M0 M : gh_M} {t nt na nc : Nat} {K : Nat → Int32} {T : TT} (h : cz M0 t nc nt na K M T) (hn : nt ≤ 5) {k u f : Nat} (hk : k = 7 + f) (hu : u < nt) (hf : f = 1 ∨ f = 2) (v : Int32) : cz M0 t nc nt na K (gh_st M k t u v) (upd T (4 + 5 * u + f) v) := by
  obtain ⟨I, hX, hI, hw⟩ := h
  exact cz.cong (M := M) (hX.stK hn hk hu (by omega) (Or.inl (by omega))) hI (hw.up (fun s hs => by omega) (fun c hc => by omega)) (fun c hc => pk_un (by omega))
theorem cz.K0 {M0 M : gh_M} {t nt na nc : Nat} {K : Nat → Int32} {T : TT} (h : cz M0 t nc nt na K M T) (hn : nt ≤ 5) {u k : Nat} (hu : u < nt) (hk : 1 ≤ k ∧ k ≤ 5) : cz M0 t nc nt na K (gh_st M 7 t u (nI k)) (upd T (4 + 5 * u) (nI k)) := by
  obtain ⟨I, hX, hI, hw⟩ := h
  refine cz.cong (M := M) (hX.stK hn (f := 0) rfl hu (by omega) (Or.inl (by omega))) hI ?_ (fun c hc => pk_un (by omega))
  obtain ⟨a1, a2, a3, a4, a5, a6⟩ := hw
  refine ⟨fun s hs => ?_, fun s hs => ?_, fun s hs => ?_, fun c hc => ?_, fun c d hc hd => ?_, fun c hc => ?_⟩
  · by_cases e : s = u
    · subst e; exact ⟨k, hk.1, hk.2, pk_us⟩
    · rw [pk_un (by omega)]; exact a1 s hs
  · rw [pk_un (by omega)]; exact a2 s hs
  · rw [pk_un (by omega)]; exact a3 s hs
  · rw [pk_un (by omega)]; exact a4 c hc
  · rw [pk_un (by omega), pk_un (by omega)]; exact a5 c d hc hd
  · rw [pk_un (by omega)]; exact a6 c hc
theorem cz.K3 {M0 M : gh_M} {t nt na nc : Nat} {K : Nat → Int32} {T : TT} (h : cz M0 t nc nt na K M T) (hn : nt ≤ 5) {u : Nat} {v : Int32} (hu : u < nt) (hv : v = nI 0 ∨ v = nI 1) : cz M0 t nc nt na K (gh_st M 10 t u v) (upd T (4 + 5 * u + 3) v) := by
  obtain ⟨I, hX, hI, hw⟩ := h
  refine cz.cong (M := M) (hX.stK hn (f := 3) rfl hu (by omega) (Or.inr hv)) hI ?_ (fun c hc => pk_un (by omega))
  obtain ⟨a1, a2, a3, a4, a5, a6⟩ := hw
  refine ⟨fun s hs => ?_, fun s hs => ?_, fun s hs => ?_, fun c hc => ?_, fun c d hc hd => ?_, fun c hc => ?_⟩
  · rw [pk_un (by omega)]; exact a1 s hs
  · by_cases e : s = u
    · subst e; rw [pk_us]; exact hv
    · rw [pk_un (by omega)]; exact a2 s hs
  · rw [pk_un (by omega)]; exact a3 s hs
  · rw [pk_un (by omega)]; exact a4 c hc
  · rw [pk_un (by omega), pk_un (by omega)]; exact a5 c d hc hd
  · rw [pk_un (by omega)]; exact a6 c hc
theorem cz.C1 {M0 M : gh_M} {t nt na nc : Nat} {K : Nat → Int32} {T : TT} (h : cz M0 t nc nt na K M T) (hn : nt ≤ 5) {c : Nat} (v : Int32) : cz M0 t nc nt na K (gh_st M 13 t c v) (upd T (29 + 7 * c + 1) v) := by
  obtain ⟨I, hX, hI, hw⟩ := h
  exact cz.cong (M := M) (hX.stC hn (f := 1) rfl (by omega) (Or.inl (by omega))) hI (hw.up (fun s hs => by omega) (fun d hd => by omega)) (fun d hd => pk_un (by omega))
/-- all switches as the bits of v -/
def sp_b (v : Int32) (u : Nat) : Int32 := if (v >>> (nI u &&& 31)) &&& nI 1 = nI 1 then nI 1 else nI 0
def sp_sw (T : TT) (v : Int32) : Nat → TT
  | 0 => T
  | n + 1 => upd (sp_sw T v n) (4 + 5 * n + 3) (sp_b v n)
theorem sp_sw_at (T : TT) (v : Int32) (i : Nat) : ∀ n, (∀ u, u < n → i ≠ 4 + 5 * u + 3) → sp_sw T v n i = T i
  | 0, _ => rfl
  | n + 1, h => by
    show upd (sp_sw T v n) (4 + 5 * n + 3) _ i = T i
    rw [pk_un (h n (by omega))]
    exact sp_sw_at T v i n (fun u hu => h u (by omega))
theorem sp_sw_cong (T : TT) {v w : Int32} : ∀ n, (∀ u, u < n → sp_b v u = sp_b w u) → sp_sw T v n = sp_sw T w n
  | 0, _ => rfl
  | n + 1, h => by
    show upd (sp_sw T v n) (4 + 5 * n + 3) _ = upd (sp_sw T w n) (4 + 5 * n + 3) _
    rw [sp_sw_cong T n (fun u hu => h u (by omega)), h n (by omega)]
theorem sp_hd.sw {T : TT} {nc nt na : Nat} {pc : Nat → Nat} (h : sp_hd T nc nt na pc) (v : Int32) (n : Nat) (hn : n ≤ 5) : sp_hd (sp_sw T v n) nc nt na pc := by
  obtain ⟨k0, k1, k2, b0, b1, b2, k3⟩ := h
  refine ⟨?_, ?_, ?_, b0, b1, b2, fun c hc => ⟨?_, (k3 c hc).2⟩⟩
  · rw [sp_sw_at _ _ _ _ (fun u hu => by omega)]; exact k0
  · rw [sp_sw_at _ _ _ _ (fun u hu => by omega)]; exact k1
  · rw [sp_sw_at _ _ _ _ (fun u hu => by omega)]; exact k2
  · rw [sp_sw_at _ _ _ _ (fun u hu => by omega)]; exact (k3 c hc).1
theorem c_sw_l {M0 : gh_M} {t nt na nc : Nat} {K : Nat → Int32} {T : TT} {v : Int32} (h1 : T 1 = nI nt) (hn : nt ≤ 5) {Q : gh_M → Prop} (hQ : ∀ M', cz M0 t nc nt na K M' (sp_sw T v nt) → Q M') :
    ∀ (r c : Nat) (M : gh_M), c + r = nt → cz M0 t nc nt na K M (sp_sw T v c) → wl_X5_switchTo_2 t Q (r + 1) v (nI c) M := by
  intro r
  induction r with
  | zero =>
    intro c M hc hZ
    have e : c = nt := by omega
    subst e
    have e1 : M 6 t 1 = nI c := by
      obtain ⟨I, hX, -⟩ := hZ
      rw [hX.1.2.1, sp_sw_at _ _ _ _ (fun u hu => by omega)]
      exact h1
    unfold wl_X5_switchTo_2
    simp only [e1]
    exact ⟨fun _ => hQ _ hZ, fun h => absurd (Int32.le_refl _) h⟩
  | succ r ih =>
    intro c M hc hZ
    have e1 : M 6 t 1 = nI nt := by
      obtain ⟨I, hX, -⟩ := hZ
      rw [hX.1.2.1, sp_sw_at _ _ _ _ (fun u hu => by omega)]
      exact h1
    unfold wl_X5_switchTo_2
    simp (disch := omega) only [nI_add, nI_clamp, zb_in, true_and, e1]
    refine ⟨fun h => absurd h (nI_ge (by omega) (by omega)), fun _ => ⟨fun g => ?_, fun g => ?_⟩⟩
    · rintro _ rfl _ rfl
      refine ih (c + 1) _ (by omega) ?_
      have := hZ.K3 hn (u := c) (v := nI 0) (by omega) (Or.inl rfl)
      show cz M0 t nc nt na K _ (upd (sp_sw T v c) (4 + 5 * c + 3) (sp_b v c))
      unfold sp_b
      rw [if_neg g]
      exact this
    · rintro _ rfl _ rfl
      refine ih (c + 1) _ (by omega) ?_
      have := hZ.K3 hn (u := c) (v := nI 1) (by omega) (Or.inr rfl)
      show cz M0 t nc nt na K _ (upd (sp_sw T v c) (4 + 5 * c + 3) (sp_b v c))
      unfold sp_b
      rw [if_pos g]
      exact this
theorem c_sw {M0 M : gh_M} {t nt na nc : Nat} {K : Nat → Int32} {T : TT} {v : Int32} (h1 : T 1 = nI nt) (hn : nt ≤ 5) (hZ : cz M0 t nc nt na K M T) {Q : gh_M → Prop} (hQ : ∀ M', cz M0 t nc nt na K M' (sp_sw T v nt) → Q M') : wp_X5_switchTo t v M Q :=
  ⟨nt + 1, c_sw_l h1 hn hQ nt 0 M (by omega) hZ⟩
/-- a car goes again -/
def sp_ag (T : TT) (c : Nat) : TT := upd (upd (upd T (29 + 7 * c + 3) (nI 20)) (29 + 7 * c + 4) (nI 0)) (29 + 7 * c + 6) (nI 0)
theorem c_ag {M0 M : gh_M} {t nt na nc car : Nat} {K : Nat → Int32} {T : TT} (hn : nt ≤ 5) (ha : na ≤ 6) (hnc : nc ≤ 12) (hc : car < na) (hW : T (29 + 7 * car + 3) = nI 21) (hZ : cz M0 t nc nt na K M T) {Q : gh_M → Prop} (hQ : ∀ M', cz M0 t nc nt na K M' (sp_ag T car) → Q M') : wp_X5_goAgain t (nI car) M Q := by
  unfold wp_X5_goAgain
  simp (disch := omega) only [nI_clamp, zb_in, true_and]
  rintro _ rfl _ rfl _ rfl
  obtain ⟨I, hX, hI, hw⟩ := hZ
  refine hQ _ ⟨I, ?_, fun j hj => ?_, ((hw.go hn (Or.inr (Or.inl rfl)) (fun c _ _ _ => by decide)).fear hn).halt (Or.inl rfl) hn⟩
  · have ec : cnt T na = cnt (sp_ag T car) na := cnt_cong fun c hc2 => by
      unfold rn sp_ag
      rw [pk_un (by omega), pk_un (by omega)]
      by_cases e : c = car
      · subst e; rw [pk_us, hW]; decide
      · rw [pk_un (by omega)]
    rw [← ec]
    exact ((hX.stC hn (f := 3) rfl (by omega) (Or.inl (by omega))).stC hn (f := 4) rfl (by omega) (Or.inl (by omega))).stC hn (f := 6) rfl (by omega) (Or.inr (Or.inl rfl))
  · have eW : ∀ c, sp_ag T car (29 + 7 * c + 3) = if c = car then nI 20 else T (29 + 7 * c + 3) := fun c => by
      unfold sp_ag
      rw [pk_un (by omega), pk_un (by omega), zb_upd]
      by_cases e : c = car
      · rw [if_pos (by omega), if_pos e]
      · rw [if_neg (by omega), if_neg e]
    rcases hI j hj with ⟨g1, g2⟩ | ⟨d, hd, hne, g1, g2⟩
    · refine Or.inl ⟨g1, fun c hc2 hne => ?_⟩
      rw [eW]
      by_cases e : c = car
      · rw [if_pos e]
        intro z
        have := zb_nI_inj z (by omega) (by omega)
        omega
      · rw [if_neg e]; exact g2 c hc2 hne
    · refine Or.inr ⟨d, hd, hne, ?_, g2⟩
      rw [eW, if_neg (fun e => ?_)]
      · exact g1
      · subst e
        have := zb_nI_inj (hW.symm.trans g1) (by omega) (by omega)
        omega
