-- ORDER: only the order of those that wait counts
def slF (na nt : Nat) : List Nat → TT → TT
  | [], T => T
  | c :: l, T => if (sp_in T na (nI 0)).isSome then T else slF na nt l (if T (29 + 7 * c + 3) = nI 20 then sp_co T na nt c (nI 0) else T)
def rkl (rk : Nat → Nat) : Nat → Nat → List Nat
  | _, 0 => []
  | k, r + 1 => rk k :: rkl rk (k + 1) r
theorem sp_le_l {rk : Nat → Nat} {na nt : Nat} : ∀ (r k : Nat) (T : TT), sp_le rk na nt k r T = slF na nt (rkl rk k r) T
  | 0, _, _ => rfl
  | r + 1, k, T => by
    unfold sp_le rkl slF
    split
    · rfl
    · exact sp_le_l r (k + 1) _
theorem slF_some {na nt : Nat} {T : TT} (h : (sp_in T na (nI 0)).isSome = true) : ∀ l, slF na nt l T = T
  | [] => rfl
  | c :: l => by unfold slF; rw [if_pos h]
theorem slF_flt {na nt : Nat} (hn : nt ≤ 5) {P : Nat → Bool} : ∀ (l : List Nat) (T : TT), (∀ c, T (29 + 7 * c + 3) = nI 20 → P c = true) → slF na nt l T = slF na nt (l.filter P) T
  | [], _, _ => rfl
  | c :: l, T, h => by
    by_cases q : P c = true
    · rw [List.filter_cons_of_pos q]
      unfold slF
      split
      · rfl
      · refine slF_flt hn l _ (fun d hd => ?_)
        split at hd
        · rw [sp_co_w T na c (nI 0) d hn] at hd
          by_cases e : d = c
          · subst e; exact q
          · rw [if_neg e] at hd; exact h d hd
        · exact h d hd
    · rw [List.filter_cons_of_neg q]
      have hne : ¬ T (29 + 7 * c + 3) = nI 20 := fun e => q (h c e)
      rw [← slF_flt hn l T h]
      by_cases s : (sp_in T na (nI 0)).isSome = true
      · rw [slF_some s, slF_some s]
      · have e : slF na nt (c :: l) T = if (sp_in T na (nI 0)).isSome then T else slF na nt l (if T (29 + 7 * c + 3) = nI 20 then sp_co T na nt c (nI 0) else T) := rfl
        rw [e, if_neg s, if_neg hne]
/-- nobody begins to wait -/
def nbw (T T' : TT) : Prop := ∀ c, T' (29 + 7 * c + 3) = nI 20 → T (29 + 7 * c + 3) = nI 20
theorem nbw.tr {A B C : TT} (h : nbw A B) (g : nbw B C) : nbw A C := fun c e => h c (g c e)
theorem nbw_goF {na nt car : Nat} (hn : nt ≤ 5) : ∀ (k j : Nat) (T : TT), T (29 + 7 * car + 3) = nI j → j + k < 20 → nbw T (sp_goF na nt car k T) ∧ ¬ sp_goF na nt car k T (29 + 7 * car + 3) = nI 20
  | 0, j, T, h, hj => ⟨fun c e => e, fun e => by
    have e : T (29 + 7 * car + 3) = nI 20 := e
    rw [h] at e
    have := zb_nI_inj e (by omega) (by omega)
    omega⟩
  | k + 1, j, T, h, hj => by
    have h20 : ¬ T (29 + 7 * car + 3) = nI 20 := fun e => by
      rw [h] at e
      have := zb_nI_inj e (by omega) (by omega)
      omega
    have hco : ∀ c, sp_co T na nt car (T (29 + 7 * car + 3) + nI 1) (29 + 7 * c + 3) = if c = car then nI (j + 1) else T (29 + 7 * c + 3) := fun c => by
      rw [sp_co_w T na car _ c hn, h, nI_add]
    have hcar : sp_co T na nt car (T (29 + 7 * car + 3) + nI 1) (29 + 7 * car + 3) = nI (j + 1) := by rw [hco car, if_pos rfl]
    have hnb : nbw T (sp_co T na nt car (T (29 + 7 * car + 3) + nI 1)) := fun c e => by
      rw [hco c] at e
      by_cases q : c = car
      · rw [if_pos q] at e
        have := zb_nI_inj e (by omega) (by omega)
        omega
      · rw [if_neg q] at e; exact e
    unfold sp_goF
    split
    · refine ⟨fun c e => ?_, fun e => ?_⟩
      · by_cases q : c = car
        · subst q; rw [pk_us] at e; exact absurd e (by decide)
        · rw [pk_un (by omega)] at e; exact e
      · rw [pk_us] at e; exact absurd e (by decide)
    · split
      · exact ⟨fun c e => e, h20⟩
      · split
        · refine ⟨hnb, fun e => ?_⟩
          rw [hcar] at e
          have := zb_nI_inj e (by omega) (by omega)
          omega
        · obtain ⟨g1, g2⟩ := nbw_goF hn k (j + 1) _ hcar (by omega)
          exact ⟨hnb.tr g1, g2⟩
theorem nbw_go {pc : Nat → Nat} {na nt car j : Nat} {T : TT} (hn : nt ≤ 5) (hp : pc car ≤ 3) (h : T (29 + 7 * car + 3) = nI j) (hj : j < 16) : nbw T (sp_go pc T na nt car) := by
  unfold sp_go
  split
  · intro c e
    rw [pk_un (by omega)] at e
    exact e
  · exact (nbw_goF hn (pc car) j T h (by omega)).1
theorem nbw_cl {pc : Nat → Nat} {na nt : Nat} (hn : nt ≤ 5) (hp : ∀ c, c < na → pc c ≤ 3) : ∀ (j : Nat) (T : TT), j ≤ 12 → nbw T (sp_cl pc na nt j T)
  | 0, T, _ => fun c e => e
  | j + 1, T, hj => by
    unfold sp_cl
    refine nbw.tr ?_ (nbw_cl hn hp j _ (by omega))
    cases h : sp_in T na (nI j) with
    | none => exact fun c e => e
    | some c =>
      obtain ⟨-, h2, h3, -⟩ := sp_inF_some h
      exact nbw_go hn (hp c (by omega)) h3 (by omega)
theorem nbw_sl {na nt : Nat} (hn : nt ≤ 5) : ∀ (l : List Nat) (T : TT), nbw T (slF na nt l T)
  | [], T => fun c e => e
  | c :: l, T => by
    unfold slF
    split
    · exact fun d e => e
    · refine nbw.tr ?_ (nbw_sl hn l _)
      split
      · intro d e
        rw [sp_co_w T na c (nI 0) d hn] at e
        by_cases q : d = c
        · rw [if_pos q] at e; exact absurd e (by decide)
        · rw [if_neg q] at e; exact e
      · exact fun d e => e
theorem sp_tk_key {pc rk rk' : Nat → Nat} {nc nt na : Nat} {T : TT} (hn : nt ≤ 5) (hnc : nc ≤ 12) (hp : ∀ c, c < na → pc c ≤ 3) {P : Nat → Bool} (hP : ∀ c, T (29 + 7 * c + 3) = nI 20 → P c = true) (hk : (rkl rk 0 na).filter P = (rkl rk' 0 na).filter P) : sp_tk pc rk nc nt na T = sp_tk pc rk' nc nt na T := by
  unfold sp_tk
  have h1 : ∀ c, sp_cl pc na nt nc T (29 + 7 * c + 3) = nI 20 → P c = true := fun c e => hP c (nbw_cl hn hp nc T hnc c e)
  rw [sp_le_l, sp_le_l, slF_flt hn (rkl rk 0 na) _ h1, slF_flt hn (rkl rk' 0 na) _ h1, hk]
theorem sp_tk_nb {pc rk : Nat → Nat} {nc nt na : Nat} {T : TT} (hn : nt ≤ 5) (hnc : nc ≤ 12) (hp : ∀ c, c < na → pc c ≤ 3) : nbw T (sp_tk pc rk nc nt na T) := fun c e => by
  unfold sp_tk at e
  rw [pk_un (by omega), sp_le_l] at e
  exact nbw_cl hn hp nc T hnc c (nbw_sl hn _ _ c e)
theorem sp_run_key {pc rk rk' : Nat → Nat} {nc nt na : Nat} (hn : nt ≤ 5) (hnc : nc ≤ 12) (hp : ∀ c, c < na → pc c ≤ 3) {P : Nat → Bool} (hk : (rkl rk 0 na).filter P = (rkl rk' 0 na).filter P) : ∀ (n : Nat) (T : TT), (∀ c, T (29 + 7 * c + 3) = nI 20 → P c = true) → sp_run pc rk nc nt na n T = sp_run pc rk' nc nt na n T
  | 0, _, _ => rfl
  | n + 1, T, hP => by
    unfold sp_run
    rw [sp_tk_key (rk := rk) (rk' := rk') hn hnc hp hP hk]
    exact sp_run_key hn hnc hp hk n _ (fun c e => hP c (sp_tk_nb (rk := rk') hn hnc hp c e))
