-- WHAT IS SO OF EVERY TRAIN
def wf (T : TT) (nc nt na : Nat) : Prop :=
  (∀ t, t < nt → ∃ k, 1 ≤ k ∧ k ≤ 5 ∧ T (4 + 5 * t) = nI k) ∧ (∀ t, t < nt → T (4 + 5 * t + 3) = nI 0 ∨ T (4 + 5 * t + 3) = nI 1) ∧ (∀ t, t < nt → ∃ m, m ≤ 999 ∧ T (4 + 5 * t + 4) = nI m) ∧
  (∀ c, c < na → (∃ j, j < nc ∧ T (29 + 7 * c + 3) = nI j) ∨ T (29 + 7 * c + 3) = nI 20 ∨ T (29 + 7 * c + 3) = nI 21) ∧
  (∀ c d, c < na → d < na → c ≠ d → T (29 + 7 * c + 3) = T (29 + 7 * d + 3) → nI 20 ≤ T (29 + 7 * c + 3)) ∧ ∀ c, c < na → T (29 + 7 * c + 6) = nI 0 ∨ T (29 + 7 * c + 6) = nI 1
/-- a number that has no part in it changes -/
theorem wf.up {T : TT} {nc nt na : Nat} (h : wf T nc nt na) {i : Nat} {v : Int32} (h1 : ∀ t, t < nt → i ≠ 4 + 5 * t ∧ i ≠ 4 + 5 * t + 3 ∧ i ≠ 4 + 5 * t + 4) (h2 : ∀ c, c < na → i ≠ 29 + 7 * c + 3 ∧ i ≠ 29 + 7 * c + 6) : wf (upd T i v) nc nt na := by
  obtain ⟨a1, a2, a3, a4, a5, a6⟩ := h
  refine ⟨fun t ht => ?_, fun t ht => ?_, fun t ht => ?_, fun c hc => ?_, fun c d hc hd => ?_, fun c hc => ?_⟩
  · rw [pk_un (h1 t ht).1.symm]; exact a1 t ht
  · rw [pk_un (h1 t ht).2.1.symm]; exact a2 t ht
  · rw [pk_un (h1 t ht).2.2.symm]; exact a3 t ht
  · rw [pk_un (h2 c hc).1.symm]; exact a4 c hc
  · rw [pk_un (h2 c hc).1.symm, pk_un (h2 d hd).1.symm]; exact a5 c d hc hd
  · rw [pk_un (h2 c hc).2.symm]; exact a6 c hc
theorem wf.fear {T : TT} {nc nt na : Nat} (h : wf T nc nt na) {car : Nat} {v : Int32} (hn : nt ≤ 5) : wf (upd T (29 + 7 * car + 4) v) nc nt na := h.up (fun t ht => by omega) (fun c hc => by omega)
theorem wf.scr {T : TT} {nc nt na : Nat} (h : wf T nc nt na) {car : Nat} {v : Int32} (hn : nt ≤ 5) : wf (upd T (29 + 7 * car + 5) v) nc nt na := h.up (fun t ht => by omega) (fun c hc => by omega)
theorem wf.tick {T : TT} {nc nt na : Nat} (h : wf T nc nt na) {v : Int32} : wf (upd T 3 v) nc nt na := h.up (fun t ht => by omega) (fun c hc => by omega)
theorem wf.halt {T : TT} {nc nt na : Nat} (h : wf T nc nt na) {car : Nat} {v : Int32} (hv : v = nI 0 ∨ v = nI 1) (hn : nt ≤ 5) : wf (upd T (29 + 7 * car + 6) v) nc nt na := by
  obtain ⟨a1, a2, a3, a4, a5, a6⟩ := h
  refine ⟨fun t ht => ?_, fun t ht => ?_, fun t ht => ?_, fun c hc => ?_, fun c d hc hd => ?_, fun c hc => ?_⟩
  · rw [pk_un (by omega)]; exact a1 t ht
  · rw [pk_un (by omega)]; exact a2 t ht
  · rw [pk_un (by omega)]; exact a3 t ht
  · rw [pk_un (by omega)]; exact a4 c hc
  · rw [pk_un (by omega), pk_un (by omega)]; exact a5 c d hc hd
  · by_cases e : c = car
    · subst e; rw [pk_us]; exact hv
    · rw [pk_un (by omega)]; exact a6 c hc
theorem wf.met {T : TT} {nc nt na : Nat} (h : wf T nc nt na) {t : Nat} (hn : nt ≤ 5) (ht : t < nt) : wf (sp_met T t) nc nt na := by
  obtain ⟨a1, a2, a3, a4, a5, a6⟩ := h
  unfold sp_met
  refine ⟨fun u hu => ?_, fun u hu => ?_, fun u hu => ?_, fun c hc => ?_, fun c d hc hd => ?_, fun c hc => ?_⟩
  · rw [pk_un (by omega)]; exact a1 u hu
  · rw [pk_un (by omega)]; exact a2 u hu
  · by_cases e : u = t
    · subst e
      rw [pk_us]
      obtain ⟨m, hm, e⟩ := a3 u ht
      rw [e]
      by_cases g : 999 ≤ m
      · rw [if_pos (nI_le g (by omega)), nI_add]
        exact ⟨m + 0, by omega, rfl⟩
      · rw [if_neg (fun q => g ((nI_leI (by omega) (by omega)).mp q)), nI_add]
        exact ⟨m + 1, by omega, rfl⟩
    · rw [pk_un (by omega)]; exact a3 u hu
  · rw [pk_un (by omega)]; exact a4 c hc
  · rw [pk_un (by omega), pk_un (by omega)]; exact a5 c d hc hd
  · rw [pk_un (by omega)]; exact a6 c hc
/-- a car comes to a place v: free, or one in which many may be -/
theorem wf.go {T : TT} {nc nt na : Nat} (h : wf T nc nt na) {car : Nat} {v : Int32} (hn : nt ≤ 5) (hv : (∃ j, j < nc ∧ v = nI j) ∨ v = nI 20 ∨ v = nI 21) (hf : ∀ c, c < na → c ≠ car → T (29 + 7 * c + 3) = v → nI 20 ≤ v) : wf (upd T (29 + 7 * car + 3) v) nc nt na := by
  obtain ⟨a1, a2, a3, a4, a5, a6⟩ := h
  refine ⟨fun t ht => ?_, fun t ht => ?_, fun t ht => ?_, fun c hc => ?_, fun c d hc hd hne e => ?_, fun c hc => ?_⟩
  · rw [pk_un (by omega)]; exact a1 t ht
  · rw [pk_un (by omega)]; exact a2 t ht
  · rw [pk_un (by omega)]; exact a3 t ht
  · by_cases e : c = car
    · subst e; rw [pk_us]; exact hv
    · rw [pk_un (by omega)]; exact a4 c hc
  · by_cases e1 : c = car
    · subst e1
      rw [pk_us, pk_un (by omega)] at e
      rw [pk_us]
      exact hf d hd (Ne.symm hne) e.symm
    · rw [pk_un (by omega)] at e ⊢
      by_cases e2 : d = car
      · subst e2
        rw [pk_us] at e
        rw [e]
        exact hf c hc e1 e
      · rw [pk_un (by omega)] at e
        exact a5 c d hc hd hne e
  · rw [pk_un (by omega)]; exact a6 c hc
theorem wf.m1 {T : TT} {nc nt na : Nat} (h : wf T nc nt na) {car t : Nat} {j : Int32} (hn : nt ≤ 5) (ht : t < nt) : wf (sp_m1 T na car j t) nc nt na := by
  unfold sp_m1
  split
  · exact (h.met hn ht).fear hn
  · exact h
theorem wf.ms {T : TT} {nc nt na : Nat} (h : wf T nc nt na) {car : Nat} {j : Int32} (hn : nt ≤ 5) : ∀ n, n ≤ nt → wf (sp_ms T na car j n) nc nt na
  | 0, _ => h
  | n + 1, hh => (wf.ms h hn n (by omega)).m1 hn (by omega)
theorem wf.sc {T : TT} {nc nt na : Nat} (h : wf T nc nt na) {car : Nat} (hn : nt ≤ 5) : wf (sp_sc T car) nc nt na := ((h.scr hn).fear hn).halt (Or.inr rfl) hn
theorem wf.c0 {T : TT} {nc nt na : Nat} (h : wf T nc nt na) {car : Nat} {v : Int32} (hn : nt ≤ 5) (hv : (∃ j, j < nc ∧ v = nI j) ∨ v = nI 20 ∨ v = nI 21) (hf : ∀ c, c < na → c ≠ car → T (29 + 7 * c + 3) = v → nI 20 ≤ v) : wf (sp_c0 T na nt car v) nc nt na :=
  wf.ms (h.go hn hv hf) hn nt (Nat.le_refl _)
theorem wf.co {T : TT} {nc nt na : Nat} (h : wf T nc nt na) {car : Nat} {v : Int32} (hn : nt ≤ 5) (hv : (∃ j, j < nc ∧ v = nI j) ∨ v = nI 20 ∨ v = nI 21) (hf : ∀ c, c < na → c ≠ car → T (29 + 7 * c + 3) = v → nI 20 ≤ v) : wf (sp_co T na nt car v) nc nt na := by
  unfold sp_co
  split
  · exact (h.c0 hn hv hf).sc hn
  · exact h.c0 hn hv hf
-- where cars are: only the one that comes changes
theorem sp_m1_w (T : TT) (na car : Nat) (j : Int32) (t c : Nat) (ht : t < 5) : sp_m1 T na car j t (29 + 7 * c + 3) = T (29 + 7 * c + 3) := by
  unfold sp_m1
  split
  · unfold sp_fri sp_met
    rw [pk_un (by omega), pk_un (by omega)]
  · rfl
theorem sp_ms_w (T : TT) (na car : Nat) (j : Int32) (c : Nat) : ∀ n, n ≤ 5 → sp_ms T na car j n (29 + 7 * c + 3) = T (29 + 7 * c + 3)
  | 0, _ => rfl
  | n + 1, h => by
    show sp_m1 (sp_ms T na car j n) na car j n (29 + 7 * c + 3) = _
    rw [sp_m1_w _ _ _ _ _ _ (by omega), sp_ms_w T na car j c n (by omega)]
theorem sp_sc_w (T : TT) (car c : Nat) : sp_sc T car (29 + 7 * c + 3) = T (29 + 7 * c + 3) := by
  unfold sp_sc
  rw [pk_un (by omega), pk_un (by omega), pk_un (by omega)]
theorem sp_c0_w (T : TT) (na : Nat) {nt : Nat} (car : Nat) (v : Int32) (c : Nat) (hn : nt ≤ 5) : sp_c0 T na nt car v (29 + 7 * c + 3) = if c = car then v else T (29 + 7 * c + 3) := by
  unfold sp_c0
  rw [sp_ms_w _ _ _ _ _ nt hn, zb_upd]
  by_cases e : c = car
  · rw [if_pos (by omega), if_pos e]
  · rw [if_neg (by omega), if_neg e]
theorem sp_co_w (T : TT) (na : Nat) {nt : Nat} (car : Nat) (v : Int32) (c : Nat) (hn : nt ≤ 5) : sp_co T na nt car v (29 + 7 * c + 3) = if c = car then v else T (29 + 7 * c + 3) := by
  unfold sp_co
  split
  · rw [sp_sc_w, sp_c0_w T na car v c hn]
  · exact sp_c0_w T na car v c hn
theorem nI_20 {j : Nat} (h : j < 20) : ¬ nI 20 ≤ nI j := nI_ge h (by omega)
