-- ORDER: the firsts for six cars
def chB6 (m : Nat) : Bool := (L6.filter (fun l => Nat.beq (enc (mrg 6 (kyl m l) (ols 6 m))) (enc l))).map enc == (pmF 720 (wls 6 m)).map (fun k => enc (mrg 6 k (ols 6 m)))
theorem chB6_0 : ∀ m, m < 4 → chB6 (0 + m) = true := by decide +kernel
theorem chB6_1 : ∀ m, m < 4 → chB6 (4 + m) = true := by decide +kernel
theorem chB6_2 : ∀ m, m < 4 → chB6 (8 + m) = true := by decide +kernel
theorem chB6_3 : ∀ m, m < 4 → chB6 (12 + m) = true := by decide +kernel
theorem chB6_4 : ∀ m, m < 4 → chB6 (16 + m) = true := by decide +kernel
theorem chB6_5 : ∀ m, m < 4 → chB6 (20 + m) = true := by decide +kernel
theorem chB6_6 : ∀ m, m < 4 → chB6 (24 + m) = true := by decide +kernel
theorem chB6_7 : ∀ m, m < 4 → chB6 (28 + m) = true := by decide +kernel
theorem chB6_8 : ∀ m, m < 4 → chB6 (32 + m) = true := by decide +kernel
theorem chB6_9 : ∀ m, m < 4 → chB6 (36 + m) = true := by decide +kernel
theorem chB6_10 : ∀ m, m < 4 → chB6 (40 + m) = true := by decide +kernel
theorem chB6_11 : ∀ m, m < 4 → chB6 (44 + m) = true := by decide +kernel
theorem chB6_12 : ∀ m, m < 4 → chB6 (48 + m) = true := by decide +kernel
theorem chB6_13 : ∀ m, m < 4 → chB6 (52 + m) = true := by decide +kernel
theorem chB6_14 : ∀ m, m < 4 → chB6 (56 + m) = true := by decide +kernel
theorem chB6_15 : ∀ m, m < 4 → chB6 (60 + m) = true := by decide +kernel
theorem chB6_ok (m : Nat) (h : m < 64) : chB6 m = true := by
  by_cases q0 : m < 4
  · have := chB6_0 (m - 0) (by omega)
    rwa [show 0 + (m - 0) = m by omega] at this
  by_cases q1 : m < 8
  · have := chB6_1 (m - 4) (by omega)
    rwa [show 4 + (m - 4) = m by omega] at this
  by_cases q2 : m < 12
  · have := chB6_2 (m - 8) (by omega)
    rwa [show 8 + (m - 8) = m by omega] at this
  by_cases q3 : m < 16
  · have := chB6_3 (m - 12) (by omega)
    rwa [show 12 + (m - 12) = m by omega] at this
  by_cases q4 : m < 20
  · have := chB6_4 (m - 16) (by omega)
    rwa [show 16 + (m - 16) = m by omega] at this
  by_cases q5 : m < 24
  · have := chB6_5 (m - 20) (by omega)
    rwa [show 20 + (m - 20) = m by omega] at this
  by_cases q6 : m < 28
  · have := chB6_6 (m - 24) (by omega)
    rwa [show 24 + (m - 24) = m by omega] at this
  by_cases q7 : m < 32
  · have := chB6_7 (m - 28) (by omega)
    rwa [show 28 + (m - 28) = m by omega] at this
  by_cases q8 : m < 36
  · have := chB6_8 (m - 32) (by omega)
    rwa [show 32 + (m - 32) = m by omega] at this
  by_cases q9 : m < 40
  · have := chB6_9 (m - 36) (by omega)
    rwa [show 36 + (m - 36) = m by omega] at this
  by_cases q10 : m < 44
  · have := chB6_10 (m - 40) (by omega)
    rwa [show 40 + (m - 40) = m by omega] at this
  by_cases q11 : m < 48
  · have := chB6_11 (m - 44) (by omega)
    rwa [show 44 + (m - 44) = m by omega] at this
  by_cases q12 : m < 52
  · have := chB6_12 (m - 48) (by omega)
    rwa [show 48 + (m - 48) = m by omega] at this
  by_cases q13 : m < 56
  · have := chB6_13 (m - 52) (by omega)
    rwa [show 52 + (m - 52) = m by omega] at this
  by_cases q14 : m < 60
  · have := chB6_14 (m - 56) (by omega)
    rwa [show 56 + (m - 56) = m by omega] at this
  by_cases q15 : m < 64
  · have := chB6_15 (m - 60) (by omega)
    rwa [show 60 + (m - 60) = m by omega] at this
  omega
