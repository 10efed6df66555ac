-- ORDER: which orders are first of their kind (a finite check)
def wls (na m : Nat) : List Nat := (List.range na).filter (fun c => bt m c)
def ols (na m : Nat) : List Nat := (List.range na).filter (fun c => !bt m c)
def mrg : Nat → List Nat → List Nat → List Nat
  | 0, _, _ => []
  | _ + 1, [], [] => []
  | k + 1, [], o :: os => o :: mrg k [] os
  | k + 1, w :: ws, [] => w :: mrg k ws []
  | k + 1, w :: ws, o :: os => if Nat.blt w o = true then w :: mrg k ws (o :: os) else o :: mrg k (w :: ws) os
def enc (l : List Nat) : Nat := l.foldl (fun a x => 7 * a + x + 1) 0
def kyl (m : Nat) (l : List Nat) : List Nat := l.filter (fun c => bt m c)
def chk (na m : Nat) : List (List Nat) → List Nat → Bool
  | [], _ => true
  | l :: r, seen => if Nat.beq (enc (mrg na (kyl m l) (ols na m))) (enc l) = true then chk na m r (enc l :: seen) else seen.any (fun x => Nat.beq x (enc (mrg na (kyl m l) (ols na m)))) && chk na m r seen
/-- the first of their kind, in order, are the orders of those that wait, merged with the others -/
def chB (na m : Nat) : Bool := ((pmF 720 (List.range na)).filter (fun l => Nat.beq (enc (mrg na (kyl m l) (ols na m))) (enc l))).map enc == (pmF 720 (wls na m)).map (fun k => enc (mrg na k (ols na m)))
theorem chB_5 : ∀ na, na < 6 → ∀ m, m < 2 ^ na → chB na m = true := by decide +kernel
theorem chB_6_37 : chB 6 37 = true := by decide +kernel
theorem chk_6_37 : chk 6 37 (pmF 720 (List.range 6)) [] = true := by decide +kernel
theorem chk_5 : ∀ na, na < 6 → ∀ m, m < 2 ^ na → chk na m (pmF 720 (List.range na)) [] = true := by decide +kernel
