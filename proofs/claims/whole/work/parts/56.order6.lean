-- ORDER: the finite check for six cars
theorem chk6_0 : ∀ m, m < 4 → chk 6 (0 + m) L6 [] = true := by decide +kernel
theorem chk6_1 : ∀ m, m < 4 → chk 6 (4 + m) L6 [] = true := by decide +kernel
theorem chk6_2 : ∀ m, m < 4 → chk 6 (8 + m) L6 [] = true := by decide +kernel
theorem chk6_3 : ∀ m, m < 4 → chk 6 (12 + m) L6 [] = true := by decide +kernel
theorem chk6_4 : ∀ m, m < 4 → chk 6 (16 + m) L6 [] = true := by decide +kernel
theorem chk6_5 : ∀ m, m < 4 → chk 6 (20 + m) L6 [] = true := by decide +kernel
theorem chk6_6 : ∀ m, m < 4 → chk 6 (24 + m) L6 [] = true := by decide +kernel
theorem chk6_7 : ∀ m, m < 4 → chk 6 (28 + m) L6 [] = true := by decide +kernel
theorem chk6_8 : ∀ m, m < 4 → chk 6 (32 + m) L6 [] = true := by decide +kernel
theorem chk6_9 : ∀ m, m < 4 → chk 6 (36 + m) L6 [] = true := by decide +kernel
theorem chk6_10 : ∀ m, m < 4 → chk 6 (40 + m) L6 [] = true := by decide +kernel
theorem chk6_11 : ∀ m, m < 4 → chk 6 (44 + m) L6 [] = true := by decide +kernel
theorem chk6_12 : ∀ m, m < 4 → chk 6 (48 + m) L6 [] = true := by decide +kernel
theorem chk6_13 : ∀ m, m < 4 → chk 6 (52 + m) L6 [] = true := by decide +kernel
theorem chk6_14 : ∀ m, m < 4 → chk 6 (56 + m) L6 [] = true := by decide +kernel
theorem chk6_15 : ∀ m, m < 4 → chk 6 (60 + m) L6 [] = true := by decide +kernel
theorem chk6 (m : Nat) (h : m < 64) : chk 6 m L6 [] = true := by
  by_cases q0 : m < 4
  · have := chk6_0 (m - 0) (by omega)
    rwa [show 0 + (m - 0) = m by omega] at this
  by_cases q1 : m < 8
  · have := chk6_1 (m - 4) (by omega)
    rwa [show 4 + (m - 4) = m by omega] at this
  by_cases q2 : m < 12
  · have := chk6_2 (m - 8) (by omega)
    rwa [show 8 + (m - 8) = m by omega] at this
  by_cases q3 : m < 16
  · have := chk6_3 (m - 12) (by omega)
    rwa [show 12 + (m - 12) = m by omega] at this
  by_cases q4 : m < 20
  · have := chk6_4 (m - 16) (by omega)
    rwa [show 16 + (m - 16) = m by omega] at this
  by_cases q5 : m < 24
  · have := chk6_5 (m - 20) (by omega)
    rwa [show 20 + (m - 20) = m by omega] at this
  by_cases q6 : m < 28
  · have := chk6_6 (m - 24) (by omega)
    rwa [show 24 + (m - 24) = m by omega] at this
  by_cases q7 : m < 32
  · have := chk6_7 (m - 28) (by omega)
    rwa [show 28 + (m - 28) = m by omega] at this
  by_cases q8 : m < 36
  · have := chk6_8 (m - 32) (by omega)
    rwa [show 32 + (m - 32) = m by omega] at this
  by_cases q9 : m < 40
  · have := chk6_9 (m - 36) (by omega)
    rwa [show 36 + (m - 36) = m by omega] at this
  by_cases q10 : m < 44
  · have := chk6_10 (m - 40) (by omega)
    rwa [show 40 + (m - 40) = m by omega] at this
  by_cases q11 : m < 48
  · have := chk6_11 (m - 44) (by omega)
    rwa [show 44 + (m - 44) = m by omega] at this
  by_cases q12 : m < 52
  · have := chk6_12 (m - 48) (by omega)
    rwa [show 48 + (m - 48) = m by omega] at this
  by_cases q13 : m < 56
  · have := chk6_13 (m - 52) (by omega)
    rwa [show 52 + (m - 52) = m by omega] at this
  by_cases q14 : m < 60
  · have := chk6_14 (m - 56) (by omega)
    rwa [show 56 + (m - 56) = m by omega] at this
  by_cases q15 : m < 64
  · have := chk6_15 (m - 60) (by omega)
    rwa [show 60 + (m - 60) = m by omega] at this
  omega
