-- THE REFERENCE'S SMALL METHODS
theorem r_copyRow_l {M0 : gh_M} {x y : Nat} (hx : x + 71 ≤ 1988) (hy : y + 71 ≤ 1988) (hd : x + 71 ≤ y ∨ y + 71 ≤ x) {Q : gh_M → Prop}
    (hQ : ∀ M', (∀ i, i < 71 → M' 33 0 (y + i) = M0 33 0 (x + i)) → (∀ a b i, ¬ (a = 33 ∧ b = 0 ∧ y ≤ i ∧ i < y + 71) → M' a b i = M0 a b i) → Q M') :
    ∀ (r k : Nat) (M : gh_M), k + r = 71 → (∀ i, i < k → M 33 0 (y + i) = M0 33 0 (x + i)) → (∀ a b i, ¬ (a = 33 ∧ b = 0 ∧ y ≤ i ∧ i < y + k) → M a b i = M0 a b i) → wl_X7_copyRow_2 Q (r + 1) (nI x) (nI y) (nI k) M := by
  intro r
  induction r with
  | zero =>
    intro k M hk h1 h2
    have e : k = 71 := by omega
    subst e
    unfold wl_X7_copyRow_2
    exact ⟨fun _ => hQ M h1 h2, fun h => absurd (Int32.le_refl _) h⟩
  | succ r ih =>
    intro k M hk h1 h2
    unfold wl_X7_copyRow_2
    simp (disch := omega) only [nI_add, nI_clamp, zb_in, true_and]
    refine ⟨fun h => absurd h (nI_ge (by omega) (by omega)), fun _ => ?_⟩
    rintro _ rfl _ rfl
    refine ih (k + 1) _ (by omega) (fun i hi => ?_) (fun a b i h => ?_)
    · rw [zb_st]
      by_cases e : i = k
      · subst e
        rw [if_pos ⟨rfl, rfl, rfl⟩]
        exact h2 33 0 (x + i) (by omega)
      · rw [if_neg (by omega)]
        exact h1 i (by omega)
    · rw [zb_st, if_neg (by omega)]
      exact h2 a b i (by omega)
theorem r_copyRow {M : gh_M} {x y : Nat} (hx : x + 71 ≤ 1988) (hy : y + 71 ≤ 1988) (hd : x + 71 ≤ y ∨ y + 71 ≤ x) {Q : gh_M → Prop}
    (hQ : ∀ M', (∀ i, i < 71 → M' 33 0 (y + i) = M 33 0 (x + i)) → (∀ a b i, ¬ (a = 33 ∧ b = 0 ∧ y ≤ i ∧ i < y + 71) → M' a b i = M a b i) → Q M') : wp_X7_copyRow (nI x) (nI y) M Q :=
  ⟨72, r_copyRow_l hx hy hd hQ 71 0 M (by omega) (fun i hi => by omega) (fun _ _ _ _ => rfl)⟩
theorem r_rank_l {M0 : gh_M} {Q : gh_M → Prop} (hQ : ∀ M', (∀ i, i < 6 → M' 34 0 i = nI i) → (∀ a b i, a ≠ 34 → M' a b i = M0 a b i) → Q M') :
    ∀ (r k : Nat) (M : gh_M), k + r = 6 → (∀ i, i < k → M 34 0 i = nI i) → (∀ a b i, a ≠ 34 → M a b i = M0 a b i) → wl_X7_rankByNumbers_2 Q (r + 1) (nI k) M := by
  intro r
  induction r with
  | zero =>
    intro k M hk h1 h2
    have e : k = 6 := by omega
    subst e
    unfold wl_X7_rankByNumbers_2
    exact ⟨fun _ => hQ M h1 h2, fun h => absurd (Int32.le_refl _) h⟩
  | succ r ih =>
    intro k M hk h1 h2
    unfold wl_X7_rankByNumbers_2
    simp (disch := omega) only [nI_add, nI_clamp, zb_in, true_and]
    refine ⟨fun h => absurd h (nI_ge (by omega) (by omega)), fun _ => ?_⟩
    rintro _ rfl _ rfl
    refine ih (k + 1) _ (by omega) (fun i hi => ?_) (fun a b i h => ?_)
    · rw [zb_st]
      by_cases e : i = k
      · rw [if_pos ⟨rfl, rfl, e⟩, e]
      · rw [if_neg (by omega)]
        exact h1 i (by omega)
    · rw [zb_k _ _ _ _ _ _ h]
      exact h2 a b i h
theorem r_rank {M : gh_M} {Q : gh_M → Prop} (hQ : ∀ M', (∀ i, i < 6 → M' 34 0 i = nI i) → (∀ a b i, a ≠ 34 → M' a b i = M a b i) → Q M') : wp_X7_rankByNumbers M Q :=
  ⟨7, r_rank_l hQ 6 0 M (by omega) (fun i hi => by omega) (fun _ _ _ _ => rfl)⟩
theorem r_noH_l {M0 : gh_M} {Q : gh_M → Prop} (hQ : ∀ M', (∀ i, i < 6 → M' 36 0 i = nI 0) → (∀ a b i, a ≠ 36 → M' a b i = M0 a b i) → Q M') :
    ∀ (r k : Nat) (M : gh_M), k + r = 6 → (∀ i, i < k → M 36 0 i = nI 0) → (∀ a b i, a ≠ 36 → M a b i = M0 a b i) → wl_X7_noHowls_7 Q (r + 1) (nI k) M := by
  intro r
  induction r with
  | zero =>
    intro k M hk h1 h2
    have e : k = 6 := by omega
    subst e
    unfold wl_X7_noHowls_7
    exact ⟨fun _ => hQ M h1 h2, fun h => absurd (Int32.le_refl _) h⟩
  | succ r ih =>
    intro k M hk h1 h2
    unfold wl_X7_noHowls_7
    simp (disch := omega) only [nI_add, nI_clamp, zb_in, true_and]
    refine ⟨fun h => absurd h (nI_ge (by omega) (by omega)), fun _ => ?_⟩
    rintro _ rfl _ rfl
    refine ih (k + 1) _ (by omega) (fun i hi => ?_) (fun a b i h => ?_)
    · rw [zb_st]
      by_cases e : i = k
      · rw [if_pos ⟨rfl, rfl, e⟩]
      · rw [if_neg (by omega)]
        exact h1 i (by omega)
    · rw [zb_k _ _ _ _ _ _ h]
      exact h2 a b i h
/-- nothing changes but what is tried -/
def fs (M M' : gh_M) : Prop := ∀ a b i, ¬ (a = 33 ∧ b = 0 ∧ 1917 ≤ i) → ¬ (a = 32 ∧ b = 0 ∧ (i = 5 ∨ i = 16 ∨ i = 17 ∨ i = 18)) → ¬ (a = 34 ∨ a = 35 ∨ a = 36 ∨ a = 42 ∨ a = 43 ∨ a = 44) → M' a b i = M a b i
theorem fs.refl {M : gh_M} : fs M M := fun _ _ _ _ _ _ => rfl
theorem fs.tr {A B C : gh_M} (h : fs A B) (g : fs B C) : fs A C := fun a b i h1 h2 h3 => (g a b i h1 h2 h3).trans (h a b i h1 h2 h3)
theorem rf.fs {M M' : gh_M} (h : rf 1917 M M') : fs M M' := fun a b i h1 h2 h3 => h a b i (by omega) (by omega) (by omega)
theorem fs.rr {M M' : gh_M} (h : fs M M') {x : Nat} {T : TT} (hx : x + 71 ≤ 1917) (g : rr M x T) : rr M' x T := fun i hi => (h 33 0 (x + i) (by omega) (by omega) (by omega)).trans (g i hi)
/-- what stands tried: T, ranks rk, no howls since T0 -/
def tried (M : gh_M) (na : Nat) (rk : Nat → Nat) (S0 : Nat → Int32) (h0 : Int32) (T : TT) : Prop := rr M 1917 T ∧ rh M T S0 h0 na ∧ rrk M rk na
theorem r_begin {M : gh_M} {T : TT} {na : Nat} (hr : rr M 0 T) (ha : na ≤ 6) {Q : gh_M → Prop} (hQ : ∀ M', tried M' na (fun k => k) (fun c => T (29 + 7 * c + 5)) (-bx_sum (fun c => T (29 + 7 * c + 5)) na) T → fs M M' → (∀ k, k < 6 → M' 34 0 k = nI k) → Q M') : wp_X7_beginTry M Q := by
  unfold wp_X7_beginTry
  refine r_copyRow (x := 0) (y := 1917) (by omega) (by omega) (by omega) (fun M1 h1 h2 => ?_)
  refine r_rank (fun M2 h3 h4 => ?_)
  unfold wp_X7_noHowls
  rintro _ rfl
  refine ⟨7, r_noH_l (fun M3 h5 h6 => ?_) 6 0 _ (by omega) (fun i hi => by omega) (fun _ _ _ _ => rfl)⟩
  have e34 : ∀ k, k < 6 → M3 34 0 k = nI k := fun k hk => by rw [h6 34 0 k (by omega), zb_k _ _ _ _ _ _ (by omega)]; exact h3 k hk
  refine hQ M3 ⟨fun i hi => ?_, ⟨fun c hc => ?_, ?_⟩, fun k hk => ⟨e34 k (by omega), hk⟩⟩ (fun a b i g1 g2 g3 => ?_) e34
  · rw [h6 33 0 _ (by omega), zb_k _ _ _ _ _ _ (by omega), h4 33 0 _ (by omega), h1 i hi]
    exact hr i hi
  · rw [h5 c hc, Int32.sub_self]
    rfl
  · rw [h6 32 0 5 (by omega), zb_s, Int32.add_left_neg]
    rfl
  · rw [h6 a b i (by omega), zb_st, if_neg (by omega), h4 a b i (by omega), h2 a b i (by omega)]
theorem r_goOn_l {M0 : gh_M} {na nt nc N : Nat} {pc rk : Nat → Nat} {S0 : Nat → Int32} {h0 : Int32} (hN : N ≤ 60) (hk0 : rrk M0 rk na) {Q : gh_M → Prop} :
    ∀ (r k : Nat) (M : gh_M) (T : TT), k + r = N → sp_hd T nc nt na pc → rx M0 1917 na S0 h0 M T → (∀ M', rx M0 1917 na S0 h0 M' (sp_run pc rk nc nt na r T) → Q M') → wl_X7_goOn_2 Q (r + 1) (nI N) (nI k) M := by
  intro r
  induction r with
  | zero =>
    intro k M T hk hh hX hQ
    unfold wl_X7_goOn_2
    exact ⟨fun _ => hQ _ hX, fun h => absurd (nI_le (by omega) (by omega)) h⟩
  | succ r ih =>
    intro k M T hk hh hX hQ
    unfold wl_X7_goOn_2
    refine ⟨fun h => absurd h (nI_ge (by omega) (by omega)), fun _ => ?_⟩
    refine r_tick (by omega) hk0 hh hX (fun M' hX' => ?_)
    rintro _ rfl
    rw [nI_add]
    obtain ⟨k0, k1, k2, b0, b1, b2, k3⟩ := hh
    exact ih (k + 1) M' _ (by omega) (sp_hd.kp ⟨k0, k1, k2, b0, b1, b2, k3⟩ (sp_tk_kp b2 b1 (fun k hk => by have := (hk0 k hk).2; omega) T)) hX' hQ
theorem r_goOn {M : gh_M} {na nt nc N : Nat} {pc rk : Nat → Nat} {S0 : Nat → Int32} {h0 : Int32} {T : TT} (hN : N ≤ 60) (hh : sp_hd T nc nt na pc) (hT : tried M na rk S0 h0 T) {Q : gh_M → Prop} (hQ : ∀ M', tried M' na rk S0 h0 (sp_run pc rk nc nt na N T) → fs M M' → rf 1917 M M' → Q M') : wp_X7_goOn (nI N) M Q :=
  ⟨N + 1, r_goOn_l hN hT.2.2 N 0 M T (by omega) hh ⟨hT.1, hT.2.1, rf.refl⟩ (fun M' hX => hQ M' ⟨hX.1, hX.2.1, hT.2.2.mv hX.2.2⟩ hX.2.2.fs hX.2.2)⟩
theorem r_tickT {M : gh_M} {na nt nc : Nat} {pc rk : Nat → Nat} {S0 : Nat → Int32} {h0 : Int32} {T : TT} (hh : sp_hd T nc nt na pc) (hT : tried M na rk S0 h0 T) {Q : gh_M → Prop} (hQ : ∀ M', tried M' na rk S0 h0 (sp_tk pc rk nc nt na T) → fs M M' → rf 1917 M M' → Q M') : wp_X7_tickAt (nI 1917) M Q :=
  r_tick (by omega) hT.2.2 hh ⟨hT.1, hT.2.1, rf.refl⟩ (fun M' hX => hQ M' ⟨hX.1, hX.2.1, hT.2.2.mv hX.2.2⟩ hX.2.2.fs hX.2.2)
-- sums and sets
theorem r_sumOf_l {M : gh_M} {x na f : Nat} {T : TT} (hx : x + 71 ≤ 1988) (hr : rr M x T) (h2 : T 2 = nI na) (ha : na ≤ 6) (hf : f < 7) {Q : Int32 → gh_M → Prop} (hQ : Q (bx_sum (fun c => T (29 + 7 * c + f)) na) M) :
    ∀ (r c : Nat), c + r = na → wl_X7_sumOf_5 Q (r + 1) (nI x) (nI f) (bx_sum (fun c => T (29 + 7 * c + f)) c) (nI c) M := by
  intro r
  induction r with
  | zero =>
    intro c hc
    have e : c = na := by omega
    subst e
    unfold wl_X7_sumOf_5
    simp (disch := omega) only [nI_add, nI_clamp, zb_in, true_and, hr.a1, h2]
    exact ⟨fun _ => hQ, fun h => absurd (Int32.le_refl _) h⟩
  | succ r ih =>
    intro c hc
    unfold wl_X7_sumOf_5
    simp (disch := omega) only [wp_X7_carAt, nI_add, pk_mul, nI_clamp, zb_in, true_and, hr.a1, hr.a3, h2, forall_eq]
    exact ⟨fun h => absurd h (nI_ge (by omega) (by omega)), fun _ => ih (c + 1) (by omega)⟩
theorem r_sumOf {M : gh_M} {x na f : Nat} {T : TT} (hx : x + 71 ≤ 1988) (hr : rr M x T) (h2 : T 2 = nI na) (ha : na ≤ 6) (hf : f < 7) {Q : Int32 → gh_M → Prop} (hQ : Q (bx_sum (fun c => T (29 + 7 * c + f)) na) M) : wp_X7_sumOf (nI x) (nI f) M Q :=
  ⟨na + 1, r_sumOf_l hx hr h2 ha hf hQ na 0 (by omega)⟩
theorem r_allMet_l {M : gh_M} {x nt : Nat} {T : TT} (hx : x + 71 ≤ 1988) (hr : rr M x T) (h1 : T 1 = nI nt) (hn : nt ≤ 5) {Q : Int32 → gh_M → Prop} (hQ : Q (bx_sum (fun t => T (4 + 5 * t + 4)) nt) M) :
    ∀ (r c : Nat), c + r = nt → wl_X7_allMet_4 Q (r + 1) (nI x) (bx_sum (fun t => T (4 + 5 * t + 4)) c) (nI c) M := by
  intro r
  induction r with
  | zero =>
    intro c hc
    have e : c = nt := by omega
    subst e
    unfold wl_X7_allMet_4
    simp (disch := omega) only [nI_add, nI_clamp, zb_in, true_and, hr.a1, h1]
    exact ⟨fun _ => hQ, fun h => absurd (Int32.le_refl _) h⟩
  | succ r ih =>
    intro c hc
    unfold wl_X7_allMet_4
    simp (disch := omega) only [wp_X7_trickAt, nI_add, pk_mul, nI_clamp, zb_in, true_and, hr.a1, hr.a3, h1, forall_eq]
    exact ⟨fun h => absurd h (nI_ge (by omega) (by omega)), fun _ => ih (c + 1) (by omega)⟩
theorem r_allMet {M : gh_M} {x nt : Nat} {T : TT} (hx : x + 71 ≤ 1988) (hr : rr M x T) (h1 : T 1 = nI nt) (hn : nt ≤ 5) {Q : Int32 → gh_M → Prop} (hQ : Q (bx_sum (fun t => T (4 + 5 * t + 4)) nt) M) : wp_X7_allMet (nI x) M Q :=
  ⟨nt + 1, r_allMet_l hx hr h1 hn hQ nt 0 (by omega)⟩
/-- a set of numbers below n, as bits -/
def sbit (p : Nat → Bool) : Nat → Int32
  | 0 => nI 0
  | n + 1 => if p n = true then sbit p n ||| (nI 1 <<< (nI n &&& 31)) else sbit p n
theorem sbit_cong {p q : Nat → Bool} : ∀ {n : Nat}, (∀ k, k < n → p k = q k) → sbit p n = sbit q n
  | 0, _ => rfl
  | n + 1, h => by
    unfold sbit
    rw [sbit_cong (fun k hk => h k (by omega)), h n (by omega)]
theorem or_nI0 (x : Int32) : x ||| nI 0 = x := Int32.or_zero
/-- cars that wait (1), run (2), are out (3) -/
def sp_th (T : TT) (how c : Nat) : Bool := if how = 1 then decide (T (29 + 7 * c + 3) = nI 20) else if how = 2 then !decide (nI 20 ≤ T (29 + 7 * c + 3)) else decide (T (29 + 7 * c + 3) = nI 21)
theorem r_that_l {M : gh_M} {x na how : Nat} {T : TT} (hx : x + 71 ≤ 1988) (hr : rr M x T) (h2 : T 2 = nI na) (ha : na ≤ 6) (hh : 1 ≤ how ∧ how ≤ 3) {Q : Int32 → gh_M → Prop} (hQ : Q (sbit (sp_th T how) na) M) :
    ∀ (r c : Nat), c + r = na → wl_X7_carsThat_5 Q (r + 1) (nI x) (nI how) (sbit (sp_th T how) c) (nI c) M := by
  intro r
  induction r with
  | zero =>
    intro c hc
    have e : c = na := by omega
    subst e
    unfold wl_X7_carsThat_5
    simp (disch := omega) only [nI_add, nI_clamp, zb_in, true_and, hr.a1, h2]
    exact ⟨fun _ => hQ, fun h => absurd (Int32.le_refl _) h⟩
  | succ r ih =>
    intro c hc
    have yes : sp_th T how c = true → wl_X7_carsThat_5 Q (r + 1) (nI x) (nI how) (sbit (sp_th T how) c ||| (nI 1 <<< (nI c &&& 31))) (nI (c + 1)) M := fun h => by
      have := ih (c + 1) (by omega)
      unfold sbit at this
      rw [if_pos h] at this
      exact this
    have no : sp_th T how c = false → wl_X7_carsThat_5 Q (r + 1) (nI x) (nI how) (sbit (sp_th T how) c) (nI (c + 1)) M := fun h => by
      have := ih (c + 1) (by omega)
      unfold sbit at this
      rw [if_neg (by rw [h]; decide)] at this
      exact this
    unfold wl_X7_carsThat_5
    simp (disch := omega) only [wp_X7_carAt, nI_add, pk_mul, nI_clamp, zb_in, true_and, hr.a1, hr.a3, h2, forall_eq, or_nI0, nI_eq]
    unfold sp_th at yes no
    refine ⟨fun h => absurd h (nI_ge (by omega) (by omega)), fun _ => ⟨fun h => ⟨fun h' => ⟨fun g => ?_, fun g => ?_⟩, fun h' => ⟨fun g => ?_, fun g => ?_⟩⟩, fun h => ⟨fun g => ?_, fun g => ?_⟩⟩⟩
    · exact no (by rw [if_neg h, if_neg h']; simpa using g)
    · exact yes (by rw [if_neg h, if_neg h']; simpa using g)
    · exact no (by rw [if_neg h, if_pos h']; simpa using g)
    · exact yes (by rw [if_neg h, if_pos h']; simpa using g)
    · exact no (by rw [if_pos h]; simpa using g)
    · exact yes (by rw [if_pos h]; simpa using g)
theorem r_that {M : gh_M} {x na how : Nat} {T : TT} (hx : x + 71 ≤ 1988) (hr : rr M x T) (h2 : T 2 = nI na) (ha : na ≤ 6) (hh : 1 ≤ how ∧ how ≤ 3) {Q : Int32 → gh_M → Prop} (hQ : Q (sbit (sp_th T how) na) M) : wp_X7_carsThat (nI x) (nI how) M Q :=
  ⟨na + 1, r_that_l hx hr h2 ha hh hQ na 0 (by omega)⟩
/-- tricks that are on, as bits -/
def sp_on (T : TT) : Nat → Int32
  | 0 => nI 0
  | n + 1 => sp_on T n ||| (T (4 + 5 * n + 3) <<< (nI n &&& 31))
theorem r_onSet_l {M : gh_M} {x nt : Nat} {T : TT} (hx : x + 71 ≤ 1988) (hr : rr M x T) (h1 : T 1 = nI nt) (hn : nt ≤ 5) {Q : Int32 → gh_M → Prop} (hQ : Q (sp_on T nt) M) :
    ∀ (r c : Nat), c + r = nt → wl_X7_onSet_4 Q (r + 1) (nI x) (sp_on T c) (nI c) M := by
  intro r
  induction r with
  | zero =>
    intro c hc
    have e : c = nt := by omega
    subst e
    unfold wl_X7_onSet_4
    simp (disch := omega) only [nI_add, nI_clamp, zb_in, true_and, hr.a1, h1]
    exact ⟨fun _ => hQ, fun h => absurd (Int32.le_refl _) h⟩
  | succ r ih =>
    intro c hc
    unfold wl_X7_onSet_4
    simp (disch := omega) only [wp_X7_trickAt, nI_add, pk_mul, nI_clamp, zb_in, true_and, hr.a1, hr.a3, h1, forall_eq]
    exact ⟨fun h => absurd h (nI_ge (by omega) (by omega)), fun _ => ih (c + 1) (by omega)⟩
theorem r_onSet {M : gh_M} {x nt : Nat} {T : TT} (hx : x + 71 ≤ 1988) (hr : rr M x T) (h1 : T 1 = nI nt) (hn : nt ≤ 5) {Q : Int32 → gh_M → Prop} (hQ : Q (sp_on T nt) M) : wp_X7_onSet (nI x) M Q :=
  ⟨nt + 1, r_onSet_l hx hr h1 hn hQ nt 0 (by omega)⟩
