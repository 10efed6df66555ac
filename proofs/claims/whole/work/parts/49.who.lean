-- WHO
def idxW (u w : Nat) : Nat := if w = 0 then 4 + 5 * u else if w = 1 then 4 + 5 * u + 2 else 4 + 5 * u + 1
def kdW (w : Nat) : Nat := if w = 0 then 7 else if w = 1 then 9 else 8
theorem y_set {M : gh_M} {T : TT} {h : HD} {u w v : Nat} (hz : ctr M 28 (T, h)) (b1 : h.1.2.1 ≤ 5) (hu : u < h.1.2.1) (hw : w ≤ 2) (hv : w = 0 → 1 ≤ v ∧ v ≤ 5) : ctr (gh_st M (kdW w) 28 u (nI v)) 28 (upd T (idxW u w) (nI v), h) ∧ ft 28 M (gh_st M (kdW w) 28 u (nI v)) := by
  have : w = 0 ∨ w = 1 ∨ w = 2 := by omega
  rcases this with rfl | rfl | rfl
  · exact y_re hz (hz.1.K0 b1 hu (hv rfl))
  · exact y_re hz (hz.1.K b1 (f := 2) rfl hu (by omega) (nI v))
  · exact y_re hz (hz.1.K b1 (f := 1) rfl hu (by omega) (nI v))
def fitW (X : TR) (u w car n : Nat) (p : Nat → Int32) (v : Nat) : Bool := tlF X.2 car p n 0 (upd X.1 (idxW u w) (nI v))
def wmF (p : Nat → Bool) : Nat → Nat → Int32 → Int32
  | 0, _, m => m
  | r + 1, v, m => wmF p r (v + 1) (if p v = true then m ||| (nI 1 <<< (nI v &&& 31)) else m ||| nI 0)
theorem shl00 : ∀ v, v < 12 → nI 0 <<< (nI v &&& 31) = nI 0 := by decide +kernel
theorem idxW_b {u w : Nat} (hu : u < 5) : 4 ≤ idxW u w ∧ idxW u w < 29 := by
  unfold idxW
  split
  · omega
  · split <;> omega
theorem c_who_l {M0 : gh_M} {S : SS} {X : TR} {u w car n hi : Nat} {p : Nat → Int32} (hC0 : CS M0 S) (hX : S.2.2.2.2.1 = some X) (hu : u < X.2.1.2.1) (hc : car < X.2.1.2.2) (hk : trOK X) (hw : w ≤ 2) (hhi : hi < 12) (hw0 : w = 0 → hi ≤ 5) (hn : n ≤ 12) (e2 : M0 24 0 2 = nI n) (ep : ∀ i, i < n → M0 25 0 i = p i) {Q : Int32 → gh_M → Prop} :
    ∀ (r v : Nat) (m : Int32) (M : gh_M), v + r = hi + 1 → (w = 0 → 1 ≤ v) → CS M S → ft 28 M0 M → (∀ M', CS M' S → ft 28 M0 M' → Q (wmF (fitW X u w car n p) r v m) M') → wl_X2_fittingTricks_45 0 Q (r + 1) (nI u) (nI w) (nI car) (nI hi) m (nI v) M := by
  have b1 := hk.hd.2.2.2.2.1
  have b2 := hk.hd.2.2.2.2.2.1
  intro r
  induction r with
  | zero =>
    intro v m M hv hv1 hC hf hQ
    unfold wl_X2_fittingTricks_45
    exact ⟨fun _ => hQ M hC hf, fun h => absurd (nI_lt (by omega) (by omega)) h⟩
  | succ r ih =>
    intro v m M hv hv1 hC hf hQ
    unfold wl_X2_fittingTricks_45
    refine ⟨fun h => absurd h (nI_nlt (by omega) (by omega)), fun _ => ?_⟩
    refine y_copy hC hX (fun M2 g2 z2 => ?_)
    have key : ∀ M3, ctr M3 28 (upd X.1 (idxW u w) (nI v), X.2) → ft 28 M2 M3 → wp_X2_isAsTold (nI car) M3 (fun r11 M12 => wp_X6_oneIf r11 M12 (fun r13 M14 => ∀ y7_15, y7_15 = (m ||| (r13 <<< (nI v &&& 31))) → ∀ y8_16, y8_16 = (nI v + (nI 1)) → wl_X2_fittingTricks_45 0 Q (r + 1) (nI u) (nI w) (nI car) (nI hi) y7_15 y8_16 M14)) := by
      intro M3 z3 g3
      have ib := idxW_b (u := u) (w := w) (by omega)
      have hh3 : hdk (upd X.1 (idxW u w) (nI v)) X.2 := hdk.up hk.hd (by omega) (fun c hc => by omega)
      refine ⟨n + 1, c_told_l (M0 := M0) hc b2 hn (by have := hk.2.1; omega) e2 ep n 0 _ _ (by omega) (hf.tr (g2.tr g3)) z3 hh3 (fun M4 T4 f4 z4 => ?_)⟩
      have hC4 : CS M4 S := cs_zf hC0 f4.ff z4
      have eF : tlF X.2 car p n 0 (upd X.1 (idxW u w) (nI v)) = fitW X u w car n p v := rfl
      rw [eF]
      refine oneIf_id (by split <;> decide) ?_
      rintro y rfl z rfl
      rw [nI_add]
      refine ih (v + 1) _ M4 (by omega) (by omega) hC4 f4 (fun M' h1 h2 => ?_)
      have := hQ M' h1 h2
      unfold wmF at this
      by_cases q : fitW X u w car n p v = true
      · rw [if_pos q] at this ⊢; exact this
      · rw [if_neg q] at this ⊢; rw [shl00 v (by omega)]; exact this
    have : w = 0 ∨ w = 1 ∨ w = 2 := by omega
    rcases this with rfl | rfl | rfl
    · refine ⟨fun _ => ?_, fun h => absurd rfl h⟩
      rw [nI_clamp (n := u) (by omega)]
      refine ⟨vp_in_nI (by omega) (by omega), ?_⟩
      rintro M3 rfl
      obtain ⟨z3, g3⟩ := y_set (w := 0) (v := v) z2 b1 hu (by omega) (by omega)
      exact key _ z3 g3
    · refine ⟨fun h => absurd h (by decide), fun _ => ⟨fun _ => ?_, fun h => absurd rfl h⟩⟩
      rw [nI_clamp (n := u) (by omega)]
      refine ⟨vp_in_nI (by omega) (by omega), ?_⟩
      rintro M3 rfl
      obtain ⟨z3, g3⟩ := y_set (w := 1) (v := v) z2 b1 hu (by omega) (by omega)
      exact key _ z3 g3
    · refine ⟨fun h => absurd h (by decide), fun _ => ⟨fun h => absurd h (by decide), fun _ => ?_⟩⟩
      rw [nI_clamp (n := u) (by omega)]
      refine ⟨vp_in_nI (by omega) (by omega), ?_⟩
      rintro M3 rfl
      obtain ⟨z3, g3⟩ := y_set (w := 2) (v := v) z2 b1 hu (by omega) (by omega)
      exact key _ z3 g3
theorem r_who_l {M0 : gh_M} {S : SS} {X : TR} {u w car n hi rw0 i0 : Nat} {p : Nat → Int32} (hR0 : RS M0 S) (hn24 : S.2.2.2.2.2.1.1 ≤ 24) (hX : S.2.2.2.2.1 = some X) (hu : u < X.2.1.2.1) (hc : car < X.2.1.2.2) (hk : trOK X) (hw : w ≤ 2) (hhi : hi < 12) (hn : n ≤ 12) (hrw : rw0 < 8) (hi0 : i0 + n ≤ 40) (ep : ∀ i, i < n → M0 38 0 (40 * rw0 + i0 + i) = p i) {Q : Int32 → gh_M → Prop} :
    ∀ (r v : Nat) (m : Int32) (M : gh_M), v + r = hi + 1 → fs M0 M → (∀ M', fs M0 M' → Q (wmF (fitW X u w car n p) r v m) (gh_st M' 32 0 13 (nI 0))) → wl_X7_who_114 Q (r + 1) (nI u) (nI w) (nI car) (nI rw0) (nI i0) (nI n) m (nI hi) (nI v) M := by
  have b1 := hk.hd.2.2.2.2.1
  have b2 := hk.hd.2.2.2.2.2.1
  intro r
  induction r with
  | zero =>
    intro v m M hv hf hQ
    unfold wl_X7_who_114 wp_X7_well
    exact ⟨fun _ => fun M2 e => by rw [e]; exact hQ M hf, fun h => absurd (nI_lt (by omega) (by omega)) h⟩
  | succ r ih =>
    intro v m M hv hf hQ
    have hR := hR0.fs hf hn24
    unfold wl_X7_who_114
    refine ⟨fun h => absurd h (nI_nlt (by omega) (by omega)), fun _ => ?_⟩
    refine r_beg hR hX hk (fun M2 k2 t2 => ?_)
    unfold wp_X7_trickAt
    have key : ∀ q, q = 1917 + idxW u w → wp_X7_isTold (nI car) (nI rw0) (nI i0) (nI n) (gh_st M2 33 0 q (nI v)) (fun r35 M36 => ((r35 = 0 → ∀ y8_38, y8_38 = (m ||| (nI 0)) → ∀ y11_39, y11_39 = (nI v + (nI 1)) → wl_X7_who_114 Q (r + 1) (nI u) (nI w) (nI car) (nI rw0) (nI i0) (nI n) y8_38 (nI hi) y11_39 M36) ∧ (¬ r35 = 0 → ∀ y8_40, y8_40 = (m ||| ((nI 1) <<< (nI v &&& 31))) → ∀ y11_41, y11_41 = (nI v + (nI 1)) → wl_X7_who_114 Q (r + 1) (nI u) (nI w) (nI car) (nI rw0) (nI i0) (nI n) y8_40 (nI hi) y11_41 M36))) := by
      intro q eq
      have ib := idxW_b (u := u) (w := w) (by omega)
      obtain ⟨t3, k3⟩ := t2.st (q := q) (i := idxW u w) (v := nI v) eq (by omega) (fun c hc => by omega) b2
      have hh3 : hdk (upd X.1 (idxW u w) (nI v)) X.2 := hdk.up hk.hd (by omega) (fun c hc => by omega)
      refine ⟨n + 1, r_told_l (M0 := M0) (X := X) (p := p) hc b2 hn hrw hi0 ep n 0 _ _ true (by omega) (hf.tr (k2.tr k3)) t3 hh3 (fun M4 f4 => ?_)⟩
      have eF : tlF X.2 car p n 0 (upd X.1 (idxW u w) (nI v)) = fitW X u w car n p v := rfl
      rw [eF]
      by_cases q : fitW X u w car n p v = true
      · rw [if_pos ⟨rfl, q⟩]
        simp only [z1, not_false_eq_true, t01, false_implies, true_and, and_true]
        rintro y rfl z rfl
        rw [nI_add]
        refine ih (v + 1) _ M4 (by omega) f4 (fun M' h1 => ?_)
        have := hQ M' h1
        unfold wmF at this
        rw [if_pos q] at this
        exact this
      · rw [if_neg (fun z => q z.2)]
        simp only [z0, not_true_eq_false, t01, false_implies, true_and, and_true]
        rintro y rfl z rfl
        rw [nI_add]
        refine ih (v + 1) _ M4 (by omega) f4 (fun M' h1 => ?_)
        have := hQ M' h1
        unfold wmF at this
        rw [if_neg q] at this
        exact this
    have : w = 0 ∨ w = 1 ∨ w = 2 := by omega
    rcases this with rfl | rfl | rfl
    · refine ⟨fun h => absurd rfl h, fun _ => ?_⟩
      rw [r_ta, nI_add (1917 + 4 + 5 * u) 0, nI_clamp (by omega)]
      refine ⟨vp_in_nI (by omega) (by omega), ?_⟩
      rintro M3 rfl
      exact key _ (by unfold idxW; simp; omega)
    · refine ⟨fun _ => ⟨fun h => absurd rfl h, fun _ => ?_⟩, fun h => absurd h (by decide)⟩
      rw [r_ta, nI_add (1917 + 4 + 5 * u) 2, nI_clamp (by omega)]
      refine ⟨vp_in_nI (by omega) (by omega), ?_⟩
      rintro M3 rfl
      exact key _ (by unfold idxW; simp; omega)
    · refine ⟨fun _ => ⟨fun _ => ?_, fun h => absurd h (by decide)⟩, fun h => absurd h (by decide)⟩
      rw [r_ta, nI_add (1917 + 4 + 5 * u) 1, nI_clamp (by omega)]
      refine ⟨vp_in_nI (by omega) (by omega), ?_⟩
      rintro M3 rfl
      exact key _ (by unfold idxW; simp; omega)
def hiW (X : TR) (w : Nat) : Nat := if w = 0 then 5 else if w = 1 then 9 else X.2.1.1 - 1
def loW (w : Nat) : Nat := if w = 2 then 0 else 1
theorem L_who {a0 a1 a2 a3 a4 a5 : Int32} {M : gh_M} {S : SS} (hC : CS M S) (hR : RS M S) : wp_X6_who a0 a1 a2 a3 a4 a5 M (fun r1 M1 => wp_X7_who a0 a1 a2 a3 a4 a5 M1 (fun r2 M2 => r1 = r2 ∧ OKn M2)) := by
  have hOK : OKn M := ⟨S, hC, hR⟩
  have hT := hC.2.2.2.2.2.2.1
  have hT2 := hR.2.2.2.2.2.1
  obtain ⟨e0, e1, e2, b0, b1, b2⟩ := hT.hd
  obtain ⟨f0, f1, f2⟩ := hT2.hd hT.ok
  unfold wp_X6_who wp_X7_who
  rcases ix a0 (ont S.2.2.2.2.1) (by omega) with ⟨u, hu, rfl⟩ | hb
  · refine c_isTy e1 hu (by omega) ?_
    simp only [z1, not_false_eq_true, t01, false_implies, true_and, and_true]
    rcases few a1 2 (by omega) with ⟨w, hw, rfl⟩ | ⟨hb, -⟩
    · refine w6y (nI_nlt (by omega) (by omega)) (nI_nlt hw (by omega)) ?_
      simp only [z1, not_false_eq_true, t01, false_implies, true_and, and_true]
      rcases ix a2 (ona S.2.2.2.2.1) (by omega) with ⟨car, hc, rfl⟩ | hb
      · refine c_isCy e2 hc (by omega) ?_
        simp only [z1, not_false_eq_true, t01, false_implies, true_and, and_true]
        rcases few a3 7 (by omega) with ⟨r, hr7, rfl⟩ | ⟨hb, -⟩
        · refine c_rowy (by omega) ?_
          simp only [z1, not_false_eq_true, t01, false_implies, true_and, and_true]
          rcases zb_rng a5 1 12 (by omega) (by omega) with hb | hb | ⟨n, hn1, hn, rfl⟩
          · refine w6n (Or.inl hb) ?_
            simp only [z0, not_true_eq_false, t01, false_implies, true_and, and_true]
            refine r_isTy f1 hu (by omega) ?_
            simp only [z1, not_false_eq_true, t01, false_implies, true_and, and_true]
            refine w7y (nI_nlt (by omega) (by omega)) (nI_nlt hw (by omega)) ?_
            simp only [z1, not_false_eq_true, t01, false_implies, true_and, and_true]
            refine r_isCy f2 hc (by omega) ?_
            simp only [z1, not_false_eq_true, t01, false_implies, true_and, and_true]
            refine r_rowy (by omega) ?_
            simp only [z1, not_false_eq_true, t01, false_implies, true_and, and_true]
            refine w7n (Or.inl hb) ?_
            simp only [z0, not_true_eq_false, t01, false_implies, true_and, and_true]
            exact hOK
          · refine w6n (Or.inr hb.2) ?_
            simp only [z0, not_true_eq_false, t01, false_implies, true_and, and_true]
            refine r_isTy f1 hu (by omega) ?_
            simp only [z1, not_false_eq_true, t01, false_implies, true_and, and_true]
            refine w7y (nI_nlt (by omega) (by omega)) (nI_nlt hw (by omega)) ?_
            simp only [z1, not_false_eq_true, t01, false_implies, true_and, and_true]
            refine r_isCy f2 hc (by omega) ?_
            simp only [z1, not_false_eq_true, t01, false_implies, true_and, and_true]
            refine r_rowy (by omega) ?_
            simp only [z1, not_false_eq_true, t01, false_implies, true_and, and_true]
            refine w7n (Or.inr hb.2) ?_
            simp only [z0, not_true_eq_false, t01, false_implies, true_and, and_true]
            exact hOK
          · refine w6y (nI_nlt hn1 (by omega)) (nI_nlt hn (by omega)) ?_
            simp only [z1, not_false_eq_true, t01, false_implies, true_and, and_true]
            rw [nI_clamp (n := r) (by omega)]
            refine ⟨vp_in_nI (by omega) (by omega), ?_⟩
            rintro _ _ rfl
            cases hX : S.2.2.2.2.1 with
            | none => rw [hX] at hu; exact absurd hu (Nat.not_lt_zero _)
            | some X =>
              rw [hX] at e0 e1 e2 f0 f1 f2 b0 b1 b2 hu hc
              have hu' : u < X.2.1.2.1 := hu
              have hc' : car < X.2.1.2.2 := hc
              obtain ⟨hk, -⟩ := hC.trn hX
              have o1 : 4 ≤ X.2.1.1 := hk.2.1
              have o12 : X.2.1.1 ≤ 12 := hk.hd.2.2.2.1
              have ref : ∀ (M2 : gh_M) (A : Int32 → gh_M → Prop), (M2 33 0 1 = nI (ont (some X))) → (M2 33 0 2 = nI (ona (some X))) → wp_X7_wrongRow (nI r) a4 (nI n) M2 A → ∀ (r0 : Int32), wp_X7_isTrick (nI u) M2 (fun r1 M2 => ((r1 = 0 → r0 = (-1000001 : Int32) ∧ OKn M2) ∧ (¬ r1 = 0 → wp_X7_in (nI w) (nI 0) (nI 2) M2 (fun r4 M5 => ((r4 = 0 → r0 = (-1000001 : Int32) ∧ OKn M5) ∧ (¬ r4 = 0 → wp_X7_isCar (nI car) M5 (fun r7 M8 => ((r7 = 0 → r0 = (-1000001 : Int32) ∧ OKn M8) ∧ (¬ r7 = 0 → wp_X7_isRow (nI r) M8 (fun r10 M11 => ((r10 = 0 → r0 = (-1000001 : Int32) ∧ OKn M11) ∧ (¬ r10 = 0 → wp_X7_in (nI n) (nI 1) (nI 12) M11 (fun r13 M14 => ((¬ r13 = 0 → wp_X7_wrongRow (nI r) a4 (nI n) M14 A) ∧ (r13 = 0 → r0 = (-1000001 : Int32) ∧ OKn M14))))))))))))))) := by
                intro M2 A h1 h2 hA r0
                refine r_isTy h1 hu (by omega) ?_
                simp only [z1, not_false_eq_true, t01, false_implies, true_and, and_true]
                refine w7y (nI_nlt (by omega) (by omega)) (nI_nlt hw (by omega)) ?_
                simp only [z1, not_false_eq_true, t01, false_implies, true_and, and_true]
                refine r_isCy h2 hc (by omega) ?_
                simp only [z1, not_false_eq_true, t01, false_implies, true_and, and_true]
                refine r_rowy (by omega) ?_
                simp only [z1, not_false_eq_true, t01, false_implies, true_and, and_true]
                refine w7y (nI_nlt hn1 (by omega)) (nI_nlt hn (by omega)) ?_
                simp only [z1, not_false_eq_true, t01, false_implies, true_and, and_true]
                exact hA
              have f9 : ∀ v M2, M2 = gh_st M 0 0 9 v → RS M2 S ∧ cRow M2 S.1 ∧ M2 33 0 1 = nI (ont (some X)) ∧ M2 33 0 2 = nI (ona (some X)) := fun v M2 e => by
                have fr : fR M M2 := fun a b q => by rw [e, zb_kr _ _ _ _ _ (by omega)]
                exact ⟨hR.fR fr hC.n24, hC.2.1.mv (fun a b q => by rw [e, zb_kr _ _ _ _ _ (by omega)]), by rw [fr 33 0 (by omega)]; exact f1, by rw [fr 33 0 (by omega)]; exact f2⟩
              refine c_find hC (by omega) (fun h9 => ?_) (fun k h9 hno => ?_) (fun k i0 n' h9 ea en hin => ?_)
              · simp only [z1, not_false_eq_true, t01, false_implies, true_and, and_true]
                unfold wp_X6_found
                intro M2 e
                obtain ⟨hR2, hc2, h1, h2⟩ := f9 _ M2 e
                refine ref M2 _ h1 h2 (r_wrong hc2 hR2 (by omega) (fun _ => ?_) (fun k' h9' => by rw [h9] at h9'; cases h9') (fun k' _ _ h9' => by rw [h9] at h9'; cases h9')) _
                exact ⟨fun z => absurd z (by decide), fun _ => ⟨rfl, OK_su' hC hR e rfl⟩⟩
              · simp only [show (nI 2 = 0) = False from eq_false (by decide), not_false_eq_true, t01, false_implies, true_and, and_true]
                unfold wp_X6_found
                intro M2 e
                obtain ⟨hR2, hc2, h1, h2⟩ := f9 _ M2 e
                refine ref M2 _ h1 h2 (r_wrong hc2 hR2 (by omega) (fun h9' => by rw [h9] at h9'; cases h9') (fun k' h9' _ => ?_) (fun k' i n h9' e1 e2 e3 => by rw [h9] at h9'; injection h9' with h9'; subst h9'; exact absurd ⟨i, n, e1, e2, e3⟩ hno)) _
                exact ⟨fun z => absurd z (by decide), fun _ => ⟨rfl, OK_su' hC hR e rfl⟩⟩
              · subst ea
                have hk40 := hC.2.1.le r k h9 (by omega)
                have : n = n' := zb_nI_inj en (by omega) (by omega)
                subst this
                simp only [z0, not_true_eq_false, t01, false_implies, true_and, and_true]
                refine ⟨vp_in_nI (by omega) (by omega), ?_⟩
                rintro _ _ rfl
                refine c_hear hC (by omega) h9 hin hn1 hn (fun M2 hC2 fr2 e24 e25 => ?_)
                have fin : ∀ hi lo, hi < 12 → (w = 0 → hi ≤ 5) → (w = 0 → 1 ≤ lo) → lo ≤ hi + 1 → hi = hiW X w → lo = loW w → ∃ k, wl_X2_fittingTricks_45 0 (fun r25 M26 => wp_X6_fine r25 M26 (fun r27 M28 => wp_X7_isTrick (nI u) M28 (fun r1 M2 => ((r1 = 0 → r27 = (-1000001 : Int32) ∧ OKn M2) ∧ (¬ r1 = 0 → wp_X7_in (nI w) (nI 0) (nI 2) M2 (fun r4 M5 => ((r4 = 0 → r27 = (-1000001 : Int32) ∧ OKn M5) ∧ (¬ r4 = 0 → wp_X7_isCar (nI car) M5 (fun r7 M8 => ((r7 = 0 → r27 = (-1000001 : Int32) ∧ OKn M8) ∧ (¬ r7 = 0 → wp_X7_isRow (nI r) M8 (fun r10 M11 => ((r10 = 0 → r27 = (-1000001 : Int32) ∧ OKn M11) ∧ (¬ r10 = 0 → wp_X7_in (nI n) (nI 1) (nI 12) M11 (fun r13 M14 => ((¬ r13 = 0 → wp_X7_wrongRow (nI r) (nI i0) (nI n) M14 (fun r16 M17 => ((0 ≤ r16 → ((¬ nI w = (nI 2) → ((¬ nI w = 0 → ((¬ nI w = (nI 1) → (vp_in (nI 0) 1988 ∧ ∀ y10_23, y10_23 = ((M17 33 0 (nI 0).toNatClampNeg) - (nI 1)) → ∃ k, wl_X7_who_114 (fun r2 M2 => r27 = r2 ∧ OKn M2) k (nI u) (nI w) (nI car) (nI r) (nI i0) (nI n) (nI 0) y10_23 (nI 1) M17)) ∧ (nI w = (nI 1) → ∃ k, wl_X7_who_114 (fun r2 M2 => r27 = r2 ∧ OKn M2) k (nI u) (nI w) (nI car) (nI r) (nI i0) (nI n) (nI 0) (nI 9) (nI 1) M17))) ∧ (nI w = 0 → ∃ k, wl_X7_who_114 (fun r2 M2 => r27 = r2 ∧ OKn M2) k (nI u) (nI w) (nI car) (nI r) (nI i0) (nI n) (nI 0) (nI 5) (nI 1) M17))) ∧ (nI w = (nI 2) → ((¬ nI w = 0 → ((¬ nI w = (nI 1) → (vp_in (nI 0) 1988 ∧ ∀ y10_63, y10_63 = ((M17 33 0 (nI 0).toNatClampNeg) - (nI 1)) → ∃ k, wl_X7_who_114 (fun r2 M2 => r27 = r2 ∧ OKn M2) k (nI u) (nI w) (nI car) (nI r) (nI i0) (nI n) (nI 0) y10_63 (nI 0) M17)) ∧ (nI w = (nI 1) → ∃ k, wl_X7_who_114 (fun r2 M2 => r27 = r2 ∧ OKn M2) k (nI u) (nI w) (nI car) (nI r) (nI i0) (nI n) (nI 0) (nI 9) (nI 0) M17))) ∧ (nI w = 0 → ∃ k, wl_X7_who_114 (fun r2 M2 => r27 = r2 ∧ OKn M2) k (nI u) (nI w) (nI car) (nI r) (nI i0) (nI n) (nI 0) (nI 5) (nI 0) M17))))) ∧ (¬ 0 ≤ r16 → r27 = r16 ∧ OKn M17)))) ∧ (r13 = 0 → r27 = (-1000001 : Int32) ∧ OKn M14))))))))))))))))) k (nI u) (nI w) (nI car) (nI hi) (nI 0) (nI lo) M2 := by
                  intro hi lo hhi h05 hlo hle ehi elo
                  refine ⟨hi + 1 - lo + 1, c_who_l (M0 := M2) (p := fun i => S.1.2.2 r (i0 + i)) hC2 hX hu' hc' hk hw hhi h05 hn e24 e25 (hi + 1 - lo) lo (nI 0) M2 (by omega) hlo hC2 ft.refl (fun M3 hC3 f3 => ?_)⟩
                  unfold wp_X6_fine
                  intro M4 e4
                  have fr4 : fR M M4 := fun a b q => by rw [e4, zb_kr _ _ _ _ _ (by omega), f3 a b (by omega), fr2 a b q]
                  have hR4 := hR.fR fr4 hC.n24
                  have hc4 : cRow M4 S.1 := hC3.2.1.mv (fun a b q => by rw [e4, zb_kr _ _ _ _ _ (by omega)])
                  refine ref M4 _ (by rw [fr4 33 0 (by omega)]; exact f1) (by rw [fr4 33 0 (by omega)]; exact f2) (r_wrong hc4 hR4 (by omega) (fun h9' => by rw [h9] at h9'; cases h9') (fun k' h9' hno => by rw [h9] at h9'; injection h9' with h9'; subst h9'; exact absurd ⟨i0, n, rfl, rfl, hin⟩ hno) (fun k' i n' h9' e1 e2 e3 => ?_)) _
                  refine ⟨fun _ => ?_, fun z => absurd (by decide) z⟩
                  have hrow := hR4.1 r (by omega)
                  rw [h9] at hrow
                  obtain ⟨s1, s2, s3⟩ := hrow
                  have g0 : M4 33 0 0 = nI X.2.1.1 := by rw [fr4 33 0 (by omega)]; exact f0
                  have FIN : ∃ k, wl_X7_who_114 (fun r2 M2 => wmF (fitW X u w car n fun i => S.1.2.2 r (i0 + i)) (hi + 1 - lo) lo (nI 0) = r2 ∧ OKn M2) k (nI u) (nI w) (nI car) (nI r) (nI i0) (nI n) (nI 0) (nI hi) (nI lo) M4 := by
                    refine ⟨hi + 1 - lo + 1, r_who_l (M0 := M4) (p := fun i => S.1.2.2 r (i0 + i)) hR4 hC.n24 hX hu' hc' hk hw hhi hn (by omega) (by omega) (fun i hi => ?_) (hi + 1 - lo) lo (nI 0) M4 (by omega) fs.refl (fun M5 k5 => ⟨rfl, OK_fin hC3 hC.n24 e4 hR4 k5⟩)⟩
                    rw [show 40 * r + i0 + i = 40 * r + (i0 + i) by omega]
                    exact s3 _ (by omega)
                  have : w = 0 ∨ w = 1 ∨ w = 2 := by omega
                  rw [nI_clamp (n := 0) (by omega), g0]
                  rcases this with rfl | rfl | rfl
                  · have q1 : hi = 5 := ehi
                    have q2 : lo = 1 := elo
                    subst q1; subst q2
                    exact ⟨fun _ => ⟨fun z => absurd rfl z, fun _ => FIN⟩, fun z => absurd z (by decide)⟩
                  · have q1 : hi = 9 := ehi
                    have q2 : lo = 1 := elo
                    subst q1; subst q2
                    exact ⟨fun _ => ⟨fun _ => ⟨fun z => absurd rfl z, fun _ => FIN⟩, fun z => absurd z (by decide)⟩, fun z => absurd z (by decide)⟩
                  · have q1 : hi = X.2.1.1 - 1 := ehi
                    have q2 : lo = 0 := elo
                    subst q1; subst q2
                    refine ⟨fun z => absurd rfl z, fun _ => ⟨fun _ => ⟨fun _ => ⟨vp_in_nI (by omega) (by omega), ?_⟩, fun z => absurd z (by decide)⟩, fun z => absurd z (by decide)⟩⟩
                    rintro y rfl
                    rw [pk_sub (by omega)]
                    exact FIN
                have g6 : M2 6 0 0 = nI X.2.1.1 := (hC2.trn hX).2.1.cd.1.trans hk.hd.1
                unfold wp_X2_fittingTricks
                rw [g6]
                have : w = 0 ∨ w = 1 ∨ w = 2 := by omega
                rcases this with rfl | rfl | rfl
                · exact ⟨fun _ => ⟨fun z => absurd rfl z, fun _ => fin 5 1 (by omega) (by omega) (by omega) (by omega) rfl rfl⟩, fun z => absurd z (by decide)⟩
                · exact ⟨fun _ => ⟨fun _ => ⟨fun z => absurd rfl z, fun _ => fin 9 1 (by omega) (by omega) (by omega) (by omega) rfl rfl⟩, fun z => absurd z (by decide)⟩, fun z => absurd z (by decide)⟩
                · refine ⟨fun z => absurd rfl z, fun _ => ⟨fun _ => ⟨fun _ => ?_, fun z => absurd z (by decide)⟩, fun z => absurd z (by decide)⟩⟩
                  rintro y rfl
                  rw [pk_sub (by omega)]
                  exact fin (X.2.1.1 - 1) 0 (by omega) (by omega) (by omega) (by omega) rfl rfl
        · refine c_rown hb ?_
          simp only [z0, not_true_eq_false, t01, false_implies, true_and, and_true]
          refine r_isTy f1 hu (by omega) ?_
          simp only [z1, not_false_eq_true, t01, false_implies, true_and, and_true]
          refine w7y (nI_nlt (by omega) (by omega)) (nI_nlt hw (by omega)) ?_
          simp only [z1, not_false_eq_true, t01, false_implies, true_and, and_true]
          refine r_isCy f2 hc (by omega) ?_
          simp only [z1, not_false_eq_true, t01, false_implies, true_and, and_true]
          refine r_rown hb ?_
          simp only [z0, not_true_eq_false, t01, false_implies, true_and, and_true]
          exact hOK
      · refine c_isCn e2 hb ?_
        simp only [z0, not_true_eq_false, t01, false_implies, true_and, and_true]
        refine r_isTy f1 hu (by omega) ?_
        simp only [z1, not_false_eq_true, t01, false_implies, true_and, and_true]
        refine w7y (nI_nlt (by omega) (by omega)) (nI_nlt hw (by omega)) ?_
        simp only [z1, not_false_eq_true, t01, false_implies, true_and, and_true]
        refine r_isCn f2 hb ?_
        simp only [z0, not_true_eq_false, t01, false_implies, true_and, and_true]
        exact hOK
    · refine w6n hb ?_
      simp only [z0, not_true_eq_false, t01, false_implies, true_and, and_true]
      refine r_isTy f1 hu (by omega) ?_
      simp only [z1, not_false_eq_true, t01, false_implies, true_and, and_true]
      refine w7n hb ?_
      simp only [z0, not_true_eq_false, t01, false_implies, true_and, and_true]
      exact hOK
  · refine c_isTn e1 hb ?_
    simp only [z0, not_true_eq_false, t01, false_implies, true_and, and_true]
    refine r_isTn f1 hb ?_
    simp only [z0, not_true_eq_false, t01, false_implies, true_and, and_true]
    exact hOK
