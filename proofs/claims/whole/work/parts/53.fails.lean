-- FAILS: sums, common divisors, and the class
def nsum (g : Nat → Nat) : Nat → Nat
  | 0 => 0
  | n + 1 => nsum g n + g n
theorem nsum_cong {g h : Nat → Nat} : ∀ n, (∀ k, k < n → g k = h k) → nsum g n = nsum h n
  | 0, _ => rfl
  | n + 1, e => by
    show nsum g n + g n = nsum h n + h n
    rw [nsum_cong n (fun k hk => e k (by omega)), e n (by omega)]
theorem nsum_le {g h : Nat → Nat} : ∀ n, (∀ k, k < n → g k ≤ h k) → nsum g n ≤ nsum h n
  | 0, _ => Nat.le_refl _
  | n + 1, e => by
    have := nsum_le n (fun k hk => e k (by omega))
    have := e n (by omega)
    show nsum g n + g n ≤ nsum h n + h n
    omega
theorem nsum_cut {g : Nat → Nat} {a : Nat} : ∀ n, a ≤ n → (∀ k, a ≤ k → k < n → g k = 0) → nsum g n = nsum g a
  | 0, h, _ => by
    have : a = 0 := by omega
    subst this; rfl
  | n + 1, h, e => by
    by_cases q : a = n + 1
    · subst q; rfl
    · show nsum g n + g n = nsum g a
      rw [nsum_cut n (by omega) (fun k h1 h2 => e k h1 (by omega)), e n (by omega) (by omega)]
      rfl
theorem nsum_cons (g : Nat → Nat) : ∀ n, nsum g (n + 1) = g 0 + nsum (fun k => g (k + 1)) n
  | 0 => by
    show 0 + g 0 = g 0 + 0
    omega
  | n + 1 => by
    show nsum g (n + 1) + g (n + 1) = g 0 + (nsum (fun k => g (k + 1)) n + g (n + 1))
    rw [nsum_cons g n]
    omega
theorem nsum_rev : ∀ (n : Nat) (g : Nat → Nat), nsum g (n + 1) = nsum (fun m => g (n - m)) (n + 1)
  | 0, g => rfl
  | n + 1, g => by
    rw [nsum_cons (fun m => g (n + 1 - m)) (n + 1)]
    show nsum g (n + 1) + g (n + 1) = g (n + 1 - 0) + nsum (fun k => g (n + 1 - (k + 1))) (n + 1)
    rw [nsum_rev n g, nsum_cong (h := fun m => g (n - m)) (g := fun k => g (n + 1 - (k + 1))) (n + 1) (fun k hk => by
      show g (n + 1 - (k + 1)) = g (n - k)
      congr 1; omega), Nat.sub_zero]
    omega
def sb (m s : Nat) : Bool := decide (m &&& s = m)
theorem sb_c : ∀ m, m < 32 → ∀ s, s < 32 → (nI m &&& nI s = nI m ↔ sb m s = true) := by decide +kernel
theorem sb_r : ∀ m, m < 32 → ∀ s, s < 32 → (nI m &&& (nI s ^^^ (-1 : Int32)) = 0 ↔ sb m s = true) := by decide +kernel
theorem sb_d : ∀ m, m < 32 → ∀ s, s < 32 → sb m s = true → nI s &&& (nI m ^^^ (-1 : Int32)) = nI (s - m) := by decide +kernel
theorem sb_p : ∀ m, m < 32 → ∀ s, s < 32 → sb m s = true → m ≤ s ∧ pop m ≤ pop s := by decide +kernel
theorem sb_m : ∀ m, m < 32 → ∀ s, s < 32 → m ≤ s → sb (s - m) s = sb m s := by decide +kernel
def wF (p s f : Nat) : Nat := p ^ pop f * (10 - p) ^ (pop s - pop f)
def prW (p s m : Nat) : Nat → Nat
  | 0 => 1
  | t + 1 => prW p s m t * (if bt s t = true then (if bt m t = true then 10 - p else p) else 1)
def tnW (s : Nat) : Nat → Nat
  | 0 => 1
  | t + 1 => tnW s t * (if bt s t = true then 10 else 1)
theorem prW_w : ∀ n, n < 6 → ∀ s, s < 2 ^ n → ∀ m, m < 2 ^ n → sb m s = true → ∀ p, p < 11 → wF p s (s - m) = prW p s m n := by decide +kernel
theorem tnW_e : ∀ n, n < 6 → ∀ s, s < 2 ^ n → tnW s n = 10 ^ pop s ∧ 10 ^ pop s ≤ 100000 ∧ 1 ≤ 10 ^ pop s := by decide +kernel
def dnF (p s f : Nat) : Nat := if sb f s = true then wF p s f else 0
def nmC (p s : Nat) (hit : Nat → Bool) (f : Nat) : Nat := if sb f s = true then (if hit (s - f) = true then wF p s f else 0) else 0
def nmR (p s n : Nat) (hit : Nat → Bool) (m : Nat) : Nat := if sb m s = true then (if hit m = true then prW p s m n else 0) else 0
theorem dn_e : ∀ n, n < 6 → ∀ s, s < 2 ^ n → ∀ p, p < 11 → nsum (dnF p s) (2 ^ n) = 10 ^ pop s := by decide +kernel
theorem fa_e {p s n : Nat} {hit : Nat → Bool} (hn : n < 6) (hs : s < 2 ^ n) (hp : p < 11) : nsum (nmC p s hit) (2 ^ n) = nsum (nmR p s n hit) (2 ^ n) := by
  have p32 := p2le (n := n) (by omega)
  rw [nsum_cut (a := s + 1) (2 ^ n) (by omega) (fun k h1 h2 => by
    unfold nmC
    rw [if_neg (fun q => by have := (sb_p k (by omega) s (by omega) q).1; omega)]), nsum_cut (g := nmR p s n hit) (a := s + 1) (2 ^ n) (by omega) (fun k h1 h2 => by
    unfold nmR
    rw [if_neg (fun q => by have := (sb_p k (by omega) s (by omega) q).1; omega)]), nsum_rev]
  refine nsum_cong _ (fun m hm => ?_)
  unfold nmC nmR
  rw [sb_m m (by omega) s (by omega) (by omega)]
  by_cases q : sb m s = true
  · rw [if_pos q, if_pos q, prW_w n hn s hs m (by omega) q p hp, show s - (s - m) = m by omega]
  · rw [if_neg q, if_neg q]
theorem nm_le {p s n : Nat} {hit : Nat → Bool} : nsum (nmC p s hit) n ≤ nsum (dnF p s) n := nsum_le n (fun k _ => by
  unfold nmC dnF
  split
  · split <;> omega
  · omega)
-- common divisors
theorem gcd_st {a b : Nat} : Nat.gcd a b = Nat.gcd b (a % b) := by rw [Nat.gcd_comm a b, Nat.gcd_rec b a, Nat.gcd_comm]
theorem eu_half {a b n : Nat} (hb : 0 < b) (hba : b ≤ a) (h : a * b < 2 ^ (n + 1)) : b * (a % b) < 2 ^ n := by
  have h1 := Nat.div_add_mod a b
  have h2 : 0 < a / b := Nat.div_pos hba hb
  have h3 := Nat.mod_lt a hb
  have h4 : b ≤ b * (a / b) := Nat.le_mul_of_pos_right b h2
  have h5 : 2 * (a % b) ≤ a := by omega
  have h6 : b * (2 * (a % b)) ≤ b * a := Nat.mul_le_mul_left b h5
  rw [Nat.pow_succ, Nat.mul_comm a b] at h
  have h7 : b * (2 * (a % b)) = 2 * (b * (a % b)) := Nat.mul_left_comm b 2 (a % b)
  omega
theorem c_eu {M : gh_M} {Q : Int64 → gh_M → Prop} : ∀ (n a b i : Nat), b ≤ a → a < 2 ^ 31 → a * b < 2 ^ n → i + n < 99 → Q (lN (Nat.gcd a b)) M → wl_X2_commonDivisor_9 Q (n + 2) (lN a) (lN b) (nI i) M := by
  intro n
  induction n with
  | zero =>
    intro a b i hba ha hab hi hQ
    unfold wl_X2_commonDivisor_9
    rw [lg_cmp_eq, lN_eq (a := b) (b := 0) (by omega) (by omega)]
    have hb : b = 0 := by
      have : a * b = 0 := by simpa using hab
      rcases Nat.mul_eq_zero.mp this with q | q <;> omega
    subst hb
    rw [Nat.gcd_zero_right] at hQ
    exact ⟨fun _ => hQ, fun _ => ⟨fun _ => hQ, fun z => absurd rfl z⟩⟩
  | succ n ih =>
    intro a b i hba ha hab hi hQ
    unfold wl_X2_commonDivisor_9
    rw [lg_cmp_eq, lN_eq (a := b) (b := 0) (by omega) (by omega)]
    refine ⟨fun z => absurd z (nI_ge (by omega) (by omega)), fun _ => ⟨fun z => ?_, fun z => ⟨fun e => z ((lN_eq (a := b) (b := 0) (by omega) (by omega)).mp e), ?_⟩⟩⟩
    · subst z
      rw [Nat.gcd_zero_right] at hQ
      exact hQ
    · rw [pk_lRem (by omega) (by omega) (by omega)]
      rintro _ rfl _ rfl
      rw [nI_add]
      have hb : 0 < b := by omega
      have := Nat.mod_lt a hb
      exact ih b (a % b) (i + 1) (by omega) (by omega) (eu_half hb hba hab) (by omega) (gcd_st ▸ hQ)
theorem eu0 {a b : Nat} (hb : b ≤ 100000) (h0 : 0 < b) : b * (a % b) < 2 ^ 34 := by
  have := Nat.mod_lt a h0
  have h1 : b * (a % b) ≤ 100000 * 100000 := Nat.mul_le_mul hb (by omega)
  omega
theorem c_gcd {M : gh_M} {Q : Int64 → gh_M → Prop} {a b : Nat} (hab : a ≤ b) (hb : b ≤ 100000) (h0 : 0 < b) (hQ : Q (lN (Nat.gcd a b)) M) : wp_X2_commonDivisor (lN a) (lN b) M Q := by
  refine ⟨37, ?_⟩
  unfold wl_X2_commonDivisor_9
  rw [lg_cmp_eq, lN_eq (a := b) (b := 0) (by omega) (by omega)]
  refine ⟨fun z => absurd z (nI_ge (by omega) (by omega)), fun _ => ⟨fun z => by omega, fun z => ⟨fun e => z ((lN_eq (a := b) (b := 0) (by omega) (by omega)).mp e), ?_⟩⟩⟩
  rw [pk_lRem (by omega) (by omega) (by omega)]
  rintro _ rfl _ rfl
  rw [nI_add]
  have := Nat.mod_lt a h0
  exact c_eu 34 b (a % b) (0 + 1) (by omega) (by omega) (eu0 hb h0) (by omega) (gcd_st ▸ hQ)
theorem c_pow_l {M : gh_M} {Q : Int64 → gh_M → Prop} {b n : Nat} (hn : n ≤ 5) (hQ : Q (lN (b ^ n)) M) : ∀ r k, k + r = n → wl_X2_power_5 Q (r + 1) (lN b) (nI n) (lN (b ^ k)) (nI k) M := by
  intro r
  induction r with
  | zero =>
    intro k hk
    have : k = n := by omega
    subst this
    unfold wl_X2_power_5
    exact ⟨fun _ => hQ, fun h => absurd (Int32.le_refl _) h⟩
  | succ r ih =>
    intro k hk
    unfold wl_X2_power_5
    refine ⟨fun h => absurd h (nI_ge (by omega) (by omega)), fun _ => ?_⟩
    rintro _ rfl _ rfl
    rw [lN_mul, nI_add, ← Nat.pow_succ]
    exact ih (k + 1) (by omega)
theorem c_pow {M : gh_M} {Q : Int64 → gh_M → Prop} {b n : Nat} (hn : n ≤ 5) (hQ : Q (lN (b ^ n)) M) : wp_X2_power (lN b) (nI n) M Q := by
  unfold wp_X2_power
  rintro _ rfl
  exact ⟨n + 1, c_pow_l hn hQ n 0 (by omega)⟩
theorem run_gr {h : HD} {c : Nat} (hc : c < h.1.2.2) (b0 : h.1.1 ≤ 12) (b1 : h.1.2.1 ≤ 5) (b2 : h.1.2.2 ≤ 6) : ∀ (n : Nat) (T : TT), ∃ e, e ≤ 18 * n ∧ run h n T (29 + 7 * c + 5) = T (29 + 7 * c + 5) + nI e
  | 0, T => ⟨0, by omega, (Int32.add_zero _).symm⟩
  | n + 1, T => by
    obtain ⟨e, he, ee⟩ := run_gr hc b0 b1 b2 n (tk h T)
    obtain ⟨-, gs⟩ := gr_tk (pc := h.2) (rk := idk) (nc := h.1.1) (T := T) b1 b2 b0
    obtain ⟨d, hd, ed⟩ := gs c hc
    refine ⟨d + e, by omega, ?_⟩
    show run h n (tk h T) (29 + 7 * c + 5) = _
    rw [ee]
    unfold tk sp_tk
    rw [pk_un (by omega), ed, Int32.add_assoc, nI_add]
def hitF (X : TR) (u N m : Nat) : Bool := !decide (run X.2 N (sp_sw X.1 (nI m) X.2.1.2.1) (29 + 7 * u + 5) ≤ X.1 (29 + 7 * u + 5))
def faR (w num den : Nat) : Int64 := if nI w = 0 then lN num / lN (Nat.gcd num den) else lN den / lN (Nat.gcd num den)
theorem c_fails_l {M0 : gh_M} {S : SS} {X : TR} {u N p w s : Nat} (hX : S.2.2.2.2.1 = some X) (hu : u < X.2.1.2.2) (hk : trOK X) (hN : N ≤ 60) (hp : p < 11) (hs : s < 2 ^ X.2.1.2.1) {Q : Int64 → gh_M → Prop} (hQ : ∀ M', CS M' S → fR M0 M' → Q (faR w (nsum (nmC p s (hitF X u N)) (2 ^ X.2.1.2.1)) (nsum (dnF p s) (2 ^ X.2.1.2.1))) M') :
    ∀ (r m : Nat) (M : gh_M), m + r = 2 ^ X.2.1.2.1 → CS M S → fR M0 M → wl_X2_screamsIfFailing_15 0 Q (r + 1) (nI u) (nI N) (nI p) (nI w) (nI s) (lN (nsum (nmC p s (hitF X u N)) m)) (lN (nsum (dnF p s) m)) (nI m) M := by
  have b1 := hk.hd.2.2.2.2.1
  have b2 := hk.hd.2.2.2.2.2.1
  have p32 := p2le b1
  intro r
  induction r with
  | zero =>
    intro m M hm hC hf
    unfold wl_X2_screamsIfFailing_15
    rw [show M 6 0 1 = nI X.2.1.2.1 from (hC.trn hX).2.1.cd.2.1.trans hk.hd.2.1, p2 _ (by omega)]
    have : m = 2 ^ X.2.1.2.1 := by omega
    subst this
    refine ⟨fun _ => ?_, fun h => absurd (Int32.le_refl _) h⟩
    have e1 := dn_e X.2.1.2.1 (by omega) s hs p hp
    have e2 := tnW_e X.2.1.2.1 (by omega) s hs
    have e3 := nm_le (p := p) (s := s) (n := 2 ^ X.2.1.2.1) (hit := hitF X u N)
    have := hQ M hC hf
    unfold faR at this
    generalize nsum (nmC p s (hitF X u N)) (2 ^ X.2.1.2.1) = num at *
    generalize nsum (dnF p s) (2 ^ X.2.1.2.1) = den at *
    refine c_gcd e3 (by omega) (by omega) ?_
    have g0 : 0 < Nat.gcd num den := Nat.gcd_pos_of_pos_right _ (by omega)
    have g1 : Nat.gcd num den ≤ den := Nat.gcd_le_right _ (by omega)
    have gn : ¬ lN (Nat.gcd num den) = 0 := fun e => by
      have := (lN_eq (a := Nat.gcd num den) (b := 0) (by omega) (by omega)).mp e
      omega
    rw [lg_cmp_eq, lN_eq (a := Nat.gcd num den) (b := 0) (by omega) (by omega)]
    refine ⟨fun _ => ⟨fun q => ⟨gn, ?_⟩, fun q => ⟨gn, ?_⟩⟩, fun z => by omega⟩
    · rw [if_neg q] at this; exact this
    · rw [if_pos q] at this; exact this
  | succ r ih =>
    intro m M hm hC hf
    unfold wl_X2_screamsIfFailing_15
    rw [show M 6 0 1 = nI X.2.1.2.1 from (hC.trn hX).2.1.cd.2.1.trans hk.hd.2.1, p2 _ (by omega), sb_c m (by omega) s (by omega)]
    refine ⟨fun h => absurd h (nI_ge (by omega) (by omega)), fun _ => ?_⟩
    have en : nsum (nmC p s (hitF X u N)) (m + 1) = nsum (nmC p s (hitF X u N)) m + nmC p s (hitF X u N) m := rfl
    have ed : nsum (dnF p s) (m + 1) = nsum (dnF p s) m + dnF p s m := rfl
    refine ⟨fun q => ?_, fun q => ?_⟩
    · rintro _ rfl
      rw [nI_add]
      have IH := ih (m + 1) M (by omega) hC hf
      rw [en, ed] at IH
      unfold nmC dnF at IH
      rw [if_neg q, if_neg q, Nat.add_zero, Nat.add_zero] at IH
      exact IH
    · rw [sb_d m (by omega) s (by omega) q]
      have pl := sb_p m (by omega) s (by omega) q
      have p5 := pop5 s (by omega)
      refine z_copy hC hX (fun M2 g2 z2 => z_sw hk.hd z2 (fun M3 g3 z3 => z_for hN (by have := hk.2.1; omega) (hdk.sw hk.hd _) z3 (fun M4 T4 g4 z4 e4 => ?_)))
      have g5 := (g2.tr g3).tr g4
      have hC4 := cs_zf hC g5 z4
      refine c_bits (by omega) ?_
      rw [nI_l (by omega)]
      refine c_pow (by omega) (c_bits (by omega) ?_)
      rw [pk_sub (a := 10) (b := p) (by omega), nI_l (by omega), pk_sub (a := pop s) (b := pop m) (by omega)]
      refine c_pow (by omega) ?_
      rw [lN_mul]
      rintro _ rfl _ rfl
      rw [lN_add, nI_clamp (n := u) (by omega), show M4 17 28 u = run X.2 N (sp_sw X.1 (nI (s - m)) X.2.1.2.1) (29 + 7 * u + 5) from (z4.1.cd.c5 hu).trans (e4 _ (by omega)), (hC4.trn hX).2.1.cd.c5 hu]
      have IH := ih (m + 1) M4 (by omega) hC4 (hf.tr g5.fR)
      rw [en, ed] at IH
      unfold nmC dnF at IH
      rw [if_pos q, if_pos q] at IH
      have ew : p ^ pop m * (10 - p) ^ (pop s - pop m) = wF p s m := rfl
      rw [ew]
      refine ⟨vp_in_nI (by omega) (by omega), vp_in_nI (by omega) (by omega), fun q2 => ?_, fun q2 => ?_⟩
      · rintro _ rfl _ rfl
        have hh : ¬ hitF X u N (s - m) = true := by unfold hitF; simpa using q2
        rw [if_neg hh] at IH
        rw [lN_add, nI_add]
        exact IH
      · rintro _ rfl _ rfl
        have hh : hitF X u N (s - m) = true := by unfold hitF; simpa using q2
        rw [if_pos hh] at IH
        simp only [lN_add, nI_add]
        exact IH
