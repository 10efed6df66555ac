-- ORDER: the best of all orders is the best of those of the waiting, merged
def mkL (P : Nat → Bool) : Nat → Nat → Nat
  | _, 0 => 0
  | k, r + 1 => (if P k = true then 1 else 0) + 2 * mkL P (k + 1) r
theorem mkL_lt {P : Nat → Bool} : ∀ r k, mkL P k r < 2 ^ r
  | 0, _ => by unfold mkL; decide
  | r + 1, k => by
    have := mkL_lt (P := P) r (k + 1)
    unfold mkL
    rw [Nat.pow_succ]
    split <;> omega
theorem mkL_bt {P : Nat → Bool} : ∀ r k c, c < r → bt (mkL P k r) c = P (k + c)
  | 0, _, _, h => absurd h (Nat.not_lt_zero _)
  | r + 1, k, 0, _ => by
    have e : mkL P k (r + 1) = (if P k = true then 1 else 0) + 2 * mkL P (k + 1) r := rfl
    unfold bt
    rw [e, Nat.pow_zero, Nat.div_one, Nat.add_zero]
    cases h : P k
    · rw [if_neg (by decide)]; exact decide_eq_false (by omega)
    · rw [if_pos rfl]; exact decide_eq_true (by omega)
  | r + 1, k, c + 1, h => by
    have ih := mkL_bt (P := P) r (k + 1) c (by omega)
    have e : mkL P k (r + 1) = (if P k = true then 1 else 0) + 2 * mkL P (k + 1) r := rfl
    have e2 : mkL P k (r + 1) / 2 = mkL P (k + 1) r := by rw [e]; split <;> omega
    unfold bt at ih ⊢
    rw [Nat.pow_succ', ← Nat.div_div_eq_div_mul, e2, ih, Nat.add_right_comm k 1 c, Nat.add_assoc]
theorem nxK_lt {l : List Nat} {k : Nat} : ∀ i, nxK l i = some k → k < i
  | 0, h => by cases h
  | i + 1, h => by
    unfold nxK at h
    split at h
    · have := nxK_lt i h; omega
    · injection h with h; omega
theorem nxJ_le {l : List Nat} {v : Nat} : ∀ j, nxJ l v j ≤ j
  | 0 => Nat.le_refl _
  | j + 1 => by
    unfold nxJ
    split
    · have := nxJ_le (l := l) (v := v) j; omega
    · exact Nat.le_refl _
theorem getD_mem {l : List Nat} {j : Nat} (h : j < l.length) : l.getD j 0 ∈ l := by
  rw [List.getD_eq_getElem?_getD, List.getElem?_eq_getElem h]
  exact List.getElem_mem h
theorem nx_ok {l l' : List Nat} (h : nx l = some l') : l'.length = l.length ∧ ∀ x, x ∈ l' → x ∈ l := by
  unfold nx at h
  cases q : nxK l (l.length - 1) with
  | none => rw [q] at h; cases h
  | some k =>
    rw [q] at h
    have hk := nxK_lt _ q
    have hj := nxJ_le (l := l) (v := l.getD k 0) (l.length - 1)
    injection h with h
    subst h
    refine ⟨?_, fun x hx => ?_⟩
    · unfold nxS
      simp only [List.length_append, List.length_take, List.length_reverse, List.length_drop, List.length_set]
      omega
    · have hx2 : x ∈ nxS l k (nxJ l (l.getD k 0) (l.length - 1)) := by
        rcases List.mem_append.mp hx with g | g
        · exact List.mem_of_mem_take g
        · exact List.mem_of_mem_drop (List.mem_reverse.mp g)
      unfold nxS at hx2
      rcases List.mem_or_eq_of_mem_set hx2 with g | g
      · rcases List.mem_or_eq_of_mem_set g with g | g
        · exact g
        · rw [g]; exact getD_mem (by omega)
      · rw [g]; exact getD_mem (by omega)
theorem pmF_all {P : List Nat → Prop} (hP : ∀ l l', P l → nx l = some l' → P l') : ∀ (f : Nat) (l : List Nat), P l → ∀ z, z ∈ pmF f l → P z
  | 0, _, _, z, hz => by cases hz
  | f + 1, l, hl, z, hz => by
    unfold pmF at hz
    rcases List.mem_cons.mp hz with e | e
    · rw [e]; exact hl
    · cases q : nx l with
      | none => rw [q] at e; cases e
      | some l' => rw [q] at e; exact pmF_all hP f l' (hP l l' hl q) z e
theorem chk_all {na m : Nat} (h : na < 7) (hm : m < 2 ^ na) : chk na m (pmF 720 (List.range na)) [] = true := by
  by_cases q : na < 6
  · exact chk_5 na q m hm
  · have : na = 6 := by omega
    subst this
    rw [L6_e]
    exact chk6 m (by have : (2 : Nat) ^ 6 = 64 := rfl; omega)
theorem chB_all {na m : Nat} (h : na < 7) (hm : m < 2 ^ na) : chB na m = true := by
  by_cases q : na < 6
  · exact chB_5 na q m hm
  · have : na = 6 := by omega
    subst this
    have := chB6_ok m (by have : (2 : Nat) ^ 6 = 64 := rfl; omega)
    unfold chB6 at this
    unfold chB
    rw [L6_e]
    exact this
theorem enc_map_inj {na : Nat} : ∀ (A B : List (List Nat)), (∀ a, a ∈ A → a.length = na ∧ ∀ x, x ∈ a → x < 6) → (∀ a, a ∈ B → a.length = na ∧ ∀ x, x ∈ a → x < 6) → A.map enc = B.map enc → A = B
  | [], [], _, _, _ => rfl
  | [], b :: B, _, _, h => by cases h
  | a :: A, [], _, _, h => by cases h
  | a :: A, b :: B, hA, hB, h => by
    rw [List.map_cons, List.map_cons] at h
    injection h with h1 h2
    have ha := hA a (List.mem_cons_self ..)
    have hb := hB b (List.mem_cons_self ..)
    rw [enc_inj (ha.1.trans hb.1.symm) ha.2 hb.2 h1, enc_map_inj A B (fun z hz => hA z (List.mem_cons_of_mem _ hz)) (fun z hz => hB z (List.mem_cons_of_mem _ hz)) h2]
theorem wls_mem {na m x : Nat} (h : x ∈ wls na m) : x < na ∧ bt m x = true := by
  have := List.mem_filter.mp h
  exact ⟨List.mem_range.mp this.1, this.2⟩
theorem ols_mem {na m x : Nat} (h : x ∈ ols na m) : x < na ∧ ¬ bt m x = true := by
  have := List.mem_filter.mp h
  exact ⟨List.mem_range.mp this.1, by simpa using this.2⟩
/-- what an order of those that wait is -/
def kOK (na m : Nat) (k : List Nat) : Prop := k.length = (wls na m).length ∧ ∀ x, x ∈ k → x ∈ wls na m
theorem kOK.all {na m : Nat} : ∀ k, k ∈ pmF 720 (wls na m) → kOK na m k :=
  pmF_all (P := kOK na m) (fun l l' h e => ⟨(nx_ok e).1.trans h.1, fun x hx => h.2 x ((nx_ok e).2 x hx)⟩) 720 _ ⟨rfl, fun _ h => h⟩
theorem mrg_ok {na m : Nat} (h : na < 7) (hm : m < 2 ^ na) {k : List Nat} (g : kOK na m k) : (mrg na k (ols na m)).length = na ∧ (∀ x, x ∈ mrg na k (ols na m) → x < 6) ∧ kyl m (mrg na k (ols na m)) = k := by
  have hl : k.length + (ols na m).length = na := by rw [g.1]; exact wo_len na h m hm
  refine ⟨mrg_len _ _ _ hl, fun x hx => ?_, mrg_flt na k (ols na m) hl (fun x hx => (wls_mem (g.2 x hx)).2) (fun x hx => (ols_mem hx).2)⟩
  rcases mrg_mem _ _ _ _ hx with e | e
  · have := (wls_mem (g.2 x e)).1; omega
  · have := (ols_mem e).1; omega
theorem firsts {na m : Nat} (h : na < 7) (hm : m < 2 ^ na) : (pmF 720 (List.range na)).filter (cnb na m) = (pmF 720 (wls na m)).map (fun k => mrg na k (ols na m)) := by
  have hb := chB_all h hm
  unfold chB at hb
  have hb := eq_of_beq hb
  refine enc_map_inj (na := na) _ _ (fun a ha => ?_) (fun a ha => ?_) ?_
  · have p := pm_p h (List.mem_filter.mp ha).1
    refine ⟨by rw [p.length_eq, List.length_range], fun x hx => ?_⟩
    have := List.mem_range.mp (p.mem_iff.mp hx)
    omega
  · obtain ⟨k, hk, e⟩ := List.mem_map.mp ha
    have := mrg_ok h hm (kOK.all k hk)
    rw [← e]
    exact ⟨this.1, this.2.1⟩
  · rw [List.map_map]
    exact hb
theorem k_perm {na m : Nat} (h : na < 7) (hm : m < 2 ^ na) {k : List Nat} (hk : k ∈ pmF 720 (wls na m)) : (mrg na k (ols na m)).Perm (List.range na) ∧ k.Perm (wls na m) ∧ (k ++ ols na m).Perm (List.range na) := by
  have h1 : mrg na k (ols na m) ∈ (pmF 720 (List.range na)).filter (cnb na m) := by
    rw [firsts h hm]
    exact List.mem_map.mpr ⟨k, hk, rfl⟩
  have p := pm_p h (List.mem_filter.mp h1).1
  have p2 : k.Perm (wls na m) := by
    have := p.filter (fun c => bt m c)
    have e : (mrg na k (ols na m)).filter (fun c => bt m c) = k := (mrg_ok h hm (kOK.all k hk)).2.2
    rw [e] at this
    exact this
  exact ⟨p, p2, (p2.append_right _).trans (List.filter_append_perm (fun c => bt m c) (List.range na))⟩
theorem kyl_app {na m : Nat} {k : List Nat} (g : kOK na m k) : kyl m (k ++ ols na m) = k := by
  unfold kyl
  rw [List.filter_append, List.filter_eq_self.mpr (fun x hx => (wls_mem (g.2 x hx)).2), List.filter_eq_nil_iff.mpr (fun x hx => (ols_mem hx).2), List.append_nil]
section O
variable {X : TR} {n m : Nat}
theorem ov_mrg (hk : trOK X) (hm : ∀ c, c < X.2.1.2.2 → (bt m c = true ↔ X.1 (29 + 7 * c + 3) = nI 20)) (hlt : m < 2 ^ X.2.1.2.2) {k : List Nat} (g : k ∈ pmF 720 (wls X.2.1.2.2 m)) : ov X n (mrg X.2.1.2.2 k (ols X.2.1.2.2 m)) = ov X n (k ++ ols X.2.1.2.2 m) := by
  have b2 : X.2.1.2.2 < 7 := by have := hk.hd.2.2.2.2.2.1; omega
  obtain ⟨p1, p2, p3⟩ := k_perm b2 hlt g
  refine ov_key hk hm p1 p3 ?_
  rw [(mrg_ok b2 hlt (kOK.all k g)).2.2, kyl_app (kOK.all k g)]
theorem ord_K (hk : trOK X) (hm : ∀ c, c < X.2.1.2.2 → (bt m c = true ↔ X.1 (29 + 7 * c + 3) = nI 20)) (hlt : m < 2 ^ X.2.1.2.2) : ordS X n = bstF (ov X n) ((pmF 720 (wls X.2.1.2.2 m)).map (fun k => mrg X.2.1.2.2 k (ols X.2.1.2.2 m))) (-1, []) := by
  have b2 : X.2.1.2.2 < 7 := by have := hk.hd.2.2.2.2.2.1; omega
  unfold ordS
  rw [ordF_bst, ← firsts b2 hlt]
  refine bst_chk (G := fun l => l.Perm (List.range X.2.1.2.2)) (fun l l' g g' e => ?_) _ [] _ (fun l hl => pm_p b2 hl) (fun l hl => by cases hl) (chk_all b2 hlt)
  have gk : kOK X.2.1.2.2 m (kyl m l) := ⟨(g.filter (fun c => bt m c)).length_eq, fun x hx => (g.filter (fun c => bt m c)).mem_iff.mp hx⟩
  have ok := mrg_ok b2 hlt gk
  have e2 : can X.2.1.2.2 m l = l' := enc_inj (by
    have := g'.length_eq
    rw [List.length_range] at this
    rw [this]; exact ok.1) ok.2.1 (fun x hx => by
    have := List.mem_range.mp (g'.mem_iff.mp hx)
    omega) e
  refine ov_key hk hm g g' ?_
  rw [← e2]
  exact ok.2.2.symm
end O
