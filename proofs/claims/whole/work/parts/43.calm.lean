-- CALM
theorem r_sw_l {M0 : gh_M} {X : TR} {T : TT} {v : Int32} (h1 : M0 33 0 1 = nI X.2.1.2.1) (b1 : X.2.1.2.1 ≤ 5) (b2 : X.2.1.2.2 ≤ 6) {Q : gh_M → Prop} (hQ : ∀ M', fs M0 M' → trd M' X (sp_sw T v X.2.1.2.1) → Q M') :
    ∀ (r n : Nat) (M : gh_M), n + r = X.2.1.2.1 → fs M0 M → trd M X (sp_sw T v n) → wl_X7_switchAll_2 Q (r + 1) v (nI n) M := by
  intro r
  induction r with
  | zero =>
    intro n M hn hf t
    unfold wl_X7_switchAll_2
    rw [nI_clamp (by omega), hf 33 0 1 (by omega) (by omega) (by omega), h1]
    have : n = X.2.1.2.1 := by omega
    subst this
    exact ⟨vp_in_nI (by omega) (by omega), fun _ => hQ M hf t, fun h => absurd (Int32.le_refl _) h⟩
  | succ r ih =>
    intro n M hn hf t
    unfold wl_X7_switchAll_2
    rw [nI_clamp (n := 1) (by omega), hf 33 0 1 (by omega) (by omega) (by omega), h1]
    refine ⟨vp_in_nI (by omega) (by omega), fun h => absurd h (nI_ge (by omega) (by omega)), fun _ => ?_⟩
    unfold wp_X7_trickAt wp_X7_has
    have nxt : ∀ w, sp_b v n = w → fs M (gh_st M 33 0 (1917 + 4 + 5 * n + 3) w) ∧ trd (gh_st M 33 0 (1917 + 4 + 5 * n + 3) w) X (sp_sw T v (n + 1)) := fun w e => by
      obtain ⟨t3, k3⟩ := t.st (q := 1917 + 4 + 5 * n + 3) (i := 4 + 5 * n + 3) (v := w) (by omega) (by omega) (fun c hc => by omega) b2
      refine ⟨k3, ?_⟩
      show trd _ X (upd (sp_sw T v n) (4 + 5 * n + 3) (sp_b v n))
      rw [e]
      exact t3
    refine ⟨fun h => ?_, fun h => ?_⟩
    · simp only [z0, not_true_eq_false, t01, false_implies, true_and, and_true]
      simp (disch := omega) only [nI_add, pk_mul, nI_clamp, zb_in, true_and]
      rintro M3 rfl y rfl
      obtain ⟨k3, t3⟩ := nxt (nI 0) (if_neg h)
      exact ih (n + 1) _ (by omega) (hf.tr k3) t3
    · simp only [z1, not_false_eq_true, t01, false_implies, true_and, and_true]
      simp (disch := omega) only [nI_add, pk_mul, nI_clamp, zb_in, true_and]
      rintro M3 rfl y rfl
      obtain ⟨k3, t3⟩ := nxt (nI 1) (if_pos h)
      exact ih (n + 1) _ (by omega) (hf.tr k3) t3
theorem r_sw {M : gh_M} {X : TR} {T : TT} {v : Int32} (h1 : M 33 0 1 = nI X.2.1.2.1) (hk : trOK X) (t : trd M X T) {Q : gh_M → Prop} (hQ : ∀ M', fs M M' → trd M' X (sp_sw T v X.2.1.2.1) → Q M') : wp_X7_switchAll v M Q :=
  ⟨X.2.1.2.1 + 1, r_sw_l h1 hk.hd.2.2.2.2.1 hk.hd.2.2.2.2.2.1 hQ X.2.1.2.1 0 M (by omega) fs.refl t⟩
theorem hdk.sw {T : TT} {h : HD} (g : hdk T h) (v : Int32) : hdk (sp_sw T v h.1.2.1) h := sp_hd.sw g v _ g.2.2.2.2.1
theorem p2 : ∀ n, n < 7 → nI 1 <<< (nI n &&& 31) = nI (2 ^ n) := by decide +kernel
theorem p21 : ∀ n, n < 7 → (nI 1 <<< (nI n &&& 31)) - nI 1 = nI (2 ^ n - 1) := by decide +kernel
theorem p2le {n : Nat} (h : n ≤ 5) : 2 ^ n ≤ 32 := by
  have : n = 0 ∨ n = 1 ∨ n = 2 ∨ n = 3 ∨ n = 4 ∨ n = 5 := by omega
  rcases this with rfl | rfl | rfl | rfl | rfl | rfl <;> decide
theorem p2pos : ∀ n : Nat, 0 < 2 ^ n
  | 0 => by decide
  | n + 1 => by
    have := p2pos n
    rw [Nat.pow_succ]
    omega
theorem pop5 : ∀ m, m < 32 → pop m ≤ 5 := by decide +kernel
theorem off_b : ∀ n, n < 6 → ∀ m, m < 32 → ∀ u, u < n → sp_b (((nI 1 <<< (nI n &&& 31)) - nI 1) &&& (nI m ^^^ (-1 : Int32))) u = sp_b (nI m ^^^ (-1 : Int32)) u := by decide +kernel
def scr0 (X : TR) : Int32 := bx_sum (fun c => X.1 (29 + 7 * c + 5)) X.2.1.2.2
def clm (X : TR) (N m : Nat) : Bool := decide (scr X N (sp_sw X.1 (nI m ^^^ (-1 : Int32)) X.2.1.2.1) = scr0 X)
def btr (o : Option Nat) (m : Nat) : Bool := match o with
  | none => true
  | some b => decide (pop m < pop b)
def caF (X : TR) (N : Nat) : Nat → Nat → Option Nat → Option Nat
  | 0, _, o => o
  | r + 1, m, o => caF X N r (m + 1) (if btr o m = true ∧ clm X N m = true then some m else o)
def bP (o : Option Nat) : Int32 := match o with
  | none => nI 6
  | some b => nI (pop b)
theorem caF_b {X : TR} {N : Nat} : ∀ (r m : Nat) (o : Option Nat), m + r ≤ 32 → (∀ b, o = some b → b < 32) → ∀ b, caF X N r m o = some b → b < 32
  | 0, _, o, _, h => h
  | r + 1, m, o, hm, h => caF_b r (m + 1) _ (by omega) (fun b hb => by
    split at hb
    · injection hb with hb; omega
    · exact h b hb)
theorem c_calm {M : gh_M} {S : SS} {X : TR} {N m : Nat} (hC : CS M S) (hX : S.2.2.2.2.1 = some X) (hN : N ≤ 60) {Q : Int32 → gh_M → Prop} (hQ : ∀ M', CS M' S → fR M M' → Q (if clm X N m = true then nI 1 else nI 0) M') : wp_X2_isCalm 0 (nI m) (nI N) M Q := by
  obtain ⟨hk, -⟩ := hC.trn hX
  have b2 := hk.hd.2.2.2.2.2.1
  unfold wp_X2_isCalm
  refine z_copy hC hX (fun M2 g2 z2 => z_sw hk.hd z2 (fun M3 g3 z3 => z_for hN (by have := hk.2.1; omega) (hdk.sw hk.hd _) z3 (fun M4 T4 g4 z4 e4 => ?_)))
  have hC4 := cs_zf hC ((g2.tr g3).tr g4) z4
  refine c_scr z4.1.cd ((e4 2 (by omega)).trans (hdk.run (hdk.sw hk.hd _) N).2.2.1) b2 (c_scr (hC4.trn hX).2.1.cd hk.hd.2.2.1 b2 ?_)
  rw [scr_e e4]
  have := hQ M4 hC4 ((g2.tr g3).tr g4).fR
  have key : (clm X N m = true) ↔ (scr X N (sp_sw X.1 (nI m ^^^ (-1 : Int32)) X.2.1.2.1) = scr0 X) := by unfold clm; rw [decide_eq_true_eq]
  refine ⟨fun h => ?_, fun h => ?_⟩
  · rw [if_neg (fun q => h (key.mp q))] at this; exact this
  · rw [if_pos (key.mpr h)] at this; exact this
theorem c_off_l {M0 : gh_M} {S : SS} {X : TR} {N : Nat} (hX : S.2.2.2.2.1 = some X) (hk : trOK X) (hN : N ≤ 60) {Q : Int32 → gh_M → Prop} :
    ∀ (r m : Nat) (o : Option Nat) (M : gh_M), m + r = 2 ^ X.2.1.2.1 → (∀ b, o = some b → b < 32) → CS M S → fR M0 M → (∀ M', CS M' S → fR M0 M' → Q (sp_inv (caF X N r m o)) M') → wl_X2_fewestOff_10 0 Q (r + 1) (nI N) (sp_inv o) (bP o) (nI m) M := by
  have hh := hk.hd
  have b1 := hk.hd.2.2.2.2.1
  have p32 := p2le b1
  intro r
  induction r with
  | zero =>
    intro m o M hm ho hC hf hQ
    unfold wl_X2_fewestOff_10
    rw [show M 6 0 1 = nI X.2.1.2.1 from (hC.trn hX).2.1.cd.2.1.trans hh.2.1, p2 _ (by omega)]
    have : m = 2 ^ X.2.1.2.1 := by omega
    subst this
    exact ⟨fun _ => hQ M hC hf, fun h => absurd (Int32.le_refl _) h⟩
  | succ r ih =>
    intro m o M hm ho hC hf hQ
    unfold wl_X2_fewestOff_10
    rw [show M 6 0 1 = nI X.2.1.2.1 from (hC.trn hX).2.1.cd.2.1.trans hh.2.1, p2 _ (by omega)]
    refine ⟨fun h => absurd h (nI_ge (by omega) (by omega)), fun _ => ?_⟩
    have pm := pop5 m (by omega)
    refine c_bits (by omega) ?_
    have hle : (bP o ≤ nI (pop m)) ↔ ¬ btr o m = true := by
      cases o with
      | none =>
        refine ⟨fun h => absurd h (nI_ge (by omega) (by omega)), fun h => absurd rfl h⟩
      | some b =>
        have pb := pop5 b (ho b rfl)
        show nI (pop b) ≤ nI (pop m) ↔ ¬ decide (pop m < pop b) = true
        rw [nI_leI (by omega) (by omega), decide_eq_true_eq]
        omega
    rw [hle]
    unfold caF at hQ
    refine ⟨fun h => ?_, fun h => ?_⟩
    · rintro y rfl
      rw [nI_add]
      refine ih (m + 1) o M (by omega) ho hC hf (fun M' h1 h2 => ?_)
      have := hQ M' h1 h2
      rw [if_neg (fun q => h q.1)] at this
      exact this
    · have h : btr o m = true := Decidable.not_not.mp h
      refine c_calm hC hX hN (fun M2 hC2 f2 => ?_)
      by_cases q : clm X N m = true
      · rw [if_pos q]
        simp only [z1, not_false_eq_true, t01, false_implies, true_and, and_true]
        refine c_bits (by omega) ?_
        rintro y rfl
        rw [nI_add]
        refine ih (m + 1) (some m) M2 (by omega) (fun b hb => by injection hb with hb; omega) hC2 (hf.tr f2) (fun M' h1 h2 => ?_)
        have := hQ M' h1 h2
        rw [if_pos ⟨h, q⟩] at this
        exact this
      · rw [if_neg q]
        simp only [z0, not_true_eq_false, t01, false_implies, true_and, and_true]
        rintro y rfl
        rw [nI_add]
        refine ih (m + 1) o M2 (by omega) ho hC2 (hf.tr f2) (fun M' h1 h2 => ?_)
        have := hQ M' h1 h2
        rw [if_neg (fun z => q z.2)] at this
        exact this
theorem i_neg0 {a b : Int32} : -b + a = 0 ↔ a = b := by
  rw [Int32.add_comm, ← Int32.sub_eq_add_neg]; exact i_sub0
theorem r_try {M : gh_M} {S : SS} {X : TR} {N m : Nat} (hR : RS M S) (hX : S.2.2.2.2.1 = some X) (hk : trOK X) (hN : N ≤ 60) (hm : m < 32) {Q : gh_M → Prop} (hQ : ∀ M', fs M M' → (M' 32 0 5 = 0 ↔ clm X N m = true) → Q M') :
    wp_X7_beginTry M (fun M35 => wp_X7_allTricks M35 (fun r36 M37 => wp_X7_switchAll (r36 &&& (nI m ^^^ (-1 : Int32))) M37 (fun M39 => wp_X7_goOn (nI N) M39 (fun M41 => Q M41)))) := by
  have b1 := hk.hd.2.2.2.2.1
  refine r_beg hR hX hk (fun M2 k2 t2 => ?_)
  have e1 : M2 33 0 1 = nI X.2.1.2.1 := (k2 33 0 1 (by omega) (by omega) (by omega)).trans (((hR.trn hX).at0 (i := 1) (by omega) rfl).trans hk.hd.2.1)
  unfold wp_X7_allTricks
  rw [nI_clamp (by omega), e1]
  refine ⟨vp_in_nI (by omega) (by omega), ?_⟩
  refine r_sw e1 hk t2 (fun M3 k3 t3 => ?_)
  rw [sp_sw_cong X.1 X.2.1.2.1 (off_b X.2.1.2.1 (by omega) m hm)] at t3
  refine r_run hN (hdk.sw hk.hd _) t3 (fun M4 k4 t4 => hQ M4 ((k2.tr k3).tr k4) ?_)
  rw [t4.2.1.2]
  unfold clm
  rw [decide_eq_true_eq]
  exact i_neg0
def resC (o : Option Nat) (w : Nat) : Int32 := match o with
  | none => -1000000
  | some b => if nI w = nI 1 then nI b else nI (pop b)
theorem resC_s {b w : Nat} : resC (some b) w = if nI w = nI 1 then nI b else nI (pop b) := rfl
theorem r_calm_l {M0 : gh_M} {S : SS} {X : TR} {N w : Nat} (hR0 : RS M0 S) (hn24 : S.2.2.2.2.2.1.1 ≤ 24) (hX : S.2.2.2.2.1 = some X) (hk : trOK X) (hN : N ≤ 60) {Q : Int32 → gh_M → Prop} :
    ∀ (r m : Nat) (o : Option Nat) (M : gh_M), m + r = 2 ^ X.2.1.2.1 → (∀ b, o = some b → b < 32) → fs M0 M → (∀ M', fs M0 M' → Q (resC (caF X N r m o) w) M') → wl_X7_calm_38 Q (r + 1) (nI N) (nI w) (sp_inv o) (nI m) M := by
  have hh := hk.hd
  have b1 := hk.hd.2.2.2.2.1
  have p32 := p2le b1
  have pp := p2pos X.2.1.2.1
  intro r
  induction r with
  | zero =>
    intro m o M hm ho hf hQ
    have hR := hR0.fs hf hn24
    unfold wl_X7_calm_38 wp_X7_allTricks
    rw [nI_clamp (by omega), show M 33 0 1 = nI X.2.1.2.1 from ((hR.trn hX).at0 (i := 1) (by omega) rfl).trans hh.2.1, p21 _ (by omega)]
    refine ⟨vp_in_nI (by omega) (by omega), fun _ => ?_, fun h => absurd (nI_lt (by omega) (by omega)) h⟩
    have := hQ M hf
    unfold caF at this
    cases o with
    | none => exact ⟨fun _ => this, fun h => absurd rfl h⟩
    | some b =>
      have hb := ho b rfl
      rw [resC_s] at this
      refine ⟨fun h => absurd h (sp_inv_ne (by omega)), fun _ => ⟨fun h => ?_, fun h => ?_⟩⟩
      · rw [if_neg h] at this
        exact r_bits (by omega) this
      · rw [if_pos h] at this
        exact this
  | succ r ih =>
    intro m o M hm ho hf hQ
    have hR := hR0.fs hf hn24
    unfold wl_X7_calm_38
    unfold wp_X7_allTricks
    rw [nI_clamp (n := 1) (by omega), show M 33 0 1 = nI X.2.1.2.1 from ((hR.trn hX).at0 (i := 1) (by omega) rfl).trans hh.2.1, p21 _ (by omega)]
    refine ⟨vp_in_nI (by omega) (by omega), fun h => absurd h (nI_nlt (by omega) (by omega)), fun _ => ?_⟩
    have pm := pop5 m (by omega)
    unfold caF at hQ
    have yes : btr o m = true → clm X N m = true → ∀ M2, fs M0 M2 → ∀ y, y = nI m + nI 1 → wl_X7_calm_38 Q (r + 1) (nI N) (nI w) (nI m) y M2 := by
      rintro h q M2 f2 y rfl
      rw [nI_add]
      refine ih (m + 1) (some m) M2 (by omega) (fun b hb => by injection hb with hb; omega) f2 (fun M' h1 => ?_)
      have := hQ M' h1
      rw [if_pos ⟨h, q⟩] at this
      exact this
    have no : ¬ (btr o m = true ∧ clm X N m = true) → ∀ M2, fs M0 M2 → ∀ y, y = nI m + nI 1 → wl_X7_calm_38 Q (r + 1) (nI N) (nI w) (sp_inv o) y M2 := by
      rintro h M2 f2 y rfl
      rw [nI_add]
      refine ih (m + 1) o M2 (by omega) ho f2 (fun M' h1 => ?_)
      have := hQ M' h1
      rw [if_neg h] at this
      exact this
    cases o with
    | none =>
      refine ⟨fun _ => ?_, fun h => absurd rfl h⟩
      refine r_try hR hX hk hN (by omega) (fun M2 f2 e2 => ⟨fun h => no (fun q => h (e2.mpr q.2)) M2 (hf.tr f2), fun h => yes rfl (e2.mp h) M2 (hf.tr f2)⟩)
    | some b =>
      have hb := ho b rfl
      have pb := pop5 b hb
      refine ⟨fun h => absurd h (sp_inv_ne (by omega)), fun _ => ?_⟩
      refine r_bits (by omega) (r_bits (m := b) (by omega) ⟨fun h => ?_, fun h => ?_⟩)
      · have hle := (nI_leI (by omega) (by omega)).mp h
        refine r_try hR hX hk hN (by omega) (fun M2 f2 e2 => no (fun q => ?_) M2 (hf.tr f2))
        have := of_decide_eq_true q.1
        omega
      · have hlt : pop m < pop b := by
          rcases Nat.lt_or_ge (pop m) (pop b) with q | q
          · exact q
          · exact absurd (nI_le q (by omega)) h
        refine r_try hR hX hk hN (by omega) (fun M2 f2 e2 => ⟨fun h => no (fun q => h (e2.mpr q.2)) M2 (hf.tr f2), fun h => yes (decide_eq_true hlt) (e2.mp h) M2 (hf.tr f2)⟩)
theorem L_calm {a0 a1 : Int32} {M : gh_M} {S : SS} (hC : CS M S) (hR : RS M S) : wp_X6_calm a0 a1 M (fun r1 M1 => wp_X7_calm a0 a1 M1 (fun r2 M2 => r1 = r2 ∧ OKn M2)) := by
  have hOK : OKn M := ⟨S, hC, hR⟩
  have hT := hC.2.2.2.2.2.2.1
  have hT2 := hR.2.2.2.2.2.1
  obtain ⟨e0, e1, e2, b0, b1, b2⟩ := hT.hd
  obtain ⟨f0, f1, f2⟩ := hT2.hd hT.ok
  unfold wp_X6_calm wp_X7_calm
  cases hX : S.2.2.2.2.1 with
  | none =>
    rw [hX] at e2 f0
    refine c_hasn e2 ?_
    simp only [z0, not_true_eq_false, t01, false_implies, true_and, and_true]
    refine r_hasn f0 ?_
    simp only [z0, not_true_eq_false, t01, false_implies, true_and, and_true]
    exact hOK
  | some X =>
    rw [hX] at e0 e1 e2 f0 f1 f2 b0 b1 b2
    obtain ⟨hk, -⟩ := hC.trn hX
    have o1 : 4 ≤ X.2.1.1 := hk.2.1
    have o3 := hk.2.2.2.1
    have p0 : 0 < onc (some X) := Nat.lt_of_lt_of_le (by omega) o1
    refine c_hasy e2 (by exact o3) (by omega) ?_
    simp only [z1, not_false_eq_true, t01, false_implies, true_and, and_true]
    rcases zb_rng a0 1 50 (by omega) (by omega) with hb | hb | ⟨N, hN1, hN, rfl⟩
    · refine w6n (Or.inl hb) ?_
      simp only [z0, not_true_eq_false, t01, false_implies, true_and, and_true]
      refine r_hasy f0 p0 (by omega) ?_
      simp only [z1, not_false_eq_true, t01, false_implies, true_and, and_true]
      refine w7n (Or.inl hb) ?_
      simp only [z0, not_true_eq_false, t01, false_implies, true_and, and_true]
      exact hOK
    · refine w6n (Or.inr hb.2) ?_
      simp only [z0, not_true_eq_false, t01, false_implies, true_and, and_true]
      refine r_hasy f0 p0 (by omega) ?_
      simp only [z1, not_false_eq_true, t01, false_implies, true_and, and_true]
      refine w7n (Or.inr hb.2) ?_
      simp only [z0, not_true_eq_false, t01, false_implies, true_and, and_true]
      exact hOK
    · refine w6y (nI_nlt hN1 (by omega)) (nI_nlt hN (by omega)) ?_
      simp only [z1, not_false_eq_true, t01, false_implies, true_and, and_true]
      rcases few a1 1 (by omega) with ⟨w, hw, rfl⟩ | ⟨hb, -⟩
      · refine w6y (nI_nlt (by omega) (by omega)) (nI_nlt hw (by omega)) ?_
        simp only [z1, not_false_eq_true, t01, false_implies, true_and, and_true]
        refine ⟨2 ^ X.2.1.2.1 + 1, c_off_l (M0 := M) (N := N) hX hk (by omega) (2 ^ X.2.1.2.1) 0 none M (by omega) (fun b hb => by cases hb) hC fR.refl (fun M3 hC3 fr => ?_)⟩
        have hR3 := hR.fR fr hC.n24
        have p32 := p2le (n := X.2.1.2.1) b1
        have hb := caF_b (X := X) (N := N) (2 ^ X.2.1.2.1) 0 none (by omega) (fun b hb => by cases hb)
        have ref : ∀ r1, r1 = resC (caF X N (2 ^ X.2.1.2.1) 0 none) w → wp_X7_isTrain M3 (fun r1_1 M2 => ((¬ r1_1 = 0 → wp_X7_in (nI N) (nI 1) (nI 50) M2 (fun r4 M5 => ((r4 = 0 → r1 = (-1000001 : Int32) ∧ OKn M5) ∧ (¬ r4 = 0 → wp_X7_in (nI w) (nI 0) (nI 1) M5 (fun r7 M8 => ((¬ r7 = 0 → ∃ k, wl_X7_calm_38 (fun r2 M2 => r1 = r2 ∧ OKn M2) k (nI N) (nI w) (-1000000 : Int32) (nI 0) M8) ∧ (r7 = 0 → r1 = (-1000001 : Int32) ∧ OKn M8))))))) ∧ (r1_1 = 0 → r1 = (-1000002 : Int32) ∧ OKn M2))) := by
          intro r1 er
          refine r_hasy (fr 33 0 (by omega) ▸ f0) p0 (by omega) ?_
          simp only [z1, not_false_eq_true, t01, false_implies, true_and, and_true]
          refine w7y (nI_nlt hN1 (by omega)) (nI_nlt hN (by omega)) ?_
          simp only [z1, not_false_eq_true, t01, false_implies, true_and, and_true]
          refine w7y (nI_nlt (by omega) (by omega)) (nI_nlt hw (by omega)) ?_
          simp only [z1, not_false_eq_true, t01, false_implies, true_and, and_true]
          exact ⟨2 ^ X.2.1.2.1 + 1, r_calm_l (M0 := M3) (N := N) (w := w) hR3 hC.n24 hX hk (by omega) (2 ^ X.2.1.2.1) 0 none M3 (by omega) (fun b hb => by cases hb) fs.refl (fun M4 k4 => ⟨er, S, hC3.fC k4.fC, hR3.fs k4 hC.n24⟩)⟩
        generalize caF X N (2 ^ X.2.1.2.1) 0 none = o at *
        cases o with
        | none => exact ⟨fun _ => ref _ rfl, fun h => absurd rfl h⟩
        | some b =>
          have hb' := hb b rfl
          refine ⟨fun h => absurd h (sp_inv_ne (by omega)), fun _ => ⟨fun h => ?_, fun h => ref _ ?_⟩⟩
          · exact c_bits (by omega) (ref _ (by rw [resC_s, if_neg h]))
          · rw [resC_s, if_pos h]; rfl
      · refine w6n hb ?_
        simp only [z0, not_true_eq_false, t01, false_implies, true_and, and_true]
        refine r_hasy f0 p0 (by omega) ?_
        simp only [z1, not_false_eq_true, t01, false_implies, true_and, and_true]
        refine w7y (nI_nlt hN1 (by omega)) (nI_nlt hN (by omega)) ?_
        simp only [z1, not_false_eq_true, t01, false_implies, true_and, and_true]
        refine w7n hb ?_
        simp only [z0, not_true_eq_false, t01, false_implies, true_and, and_true]
        exact hOK
