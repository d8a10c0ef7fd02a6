theorem chr {q : Nat} (h : q < 65536) : vp_nar .char ((nI q).toUInt32 % 65536).toInt32 = nI q := by
  rw [pk_vc, pk_char, pk_tn (by omega), Nat.mod_eq_of_lt h]
theorem in126 (x : Int32) : f_X8_in 1000 x.toInt64 (1 : Int64) (126 : Int64) = some (if x < 1 ∨ 126 < x then 0 else 1) := in_lit 1000 x 1 126
theorem k_letter {le ma : Int32} {pg mp : Nat → Int32} (x1 : Int32) (h : PageR le pg ma mp) : ∃ (a0 a1 : Int32) (a2 : Nat → Int32) (b1 : Int32) (b2 : Nat → Int32), f_X7_letter 1000 le pg x1 = some (a0, a1, a2) ∧ f_X8_letter 1000 ma mp x1 = some (a0, b1, b2) ∧ PageR a1 a2 b1 b2 := by
  have h' := h
  obtain ⟨e1, n, hn, e2, h1⟩ := h
  subst e1
  unfold f_X7_letter f_X8_letter
  rw [in126, ob1_s]
  have z1 : (1 : Int32).toInt = 1 := by decide
  have z0 : (0 : Int32).toInt = 0 := by decide
  have z2 : (126 : Int32).toInt = 126 := by decide
  by_cases a1 : x1 < 1
  · exact ⟨-102, ma, pg, ma, mp, by rw [if_pos a1], by rw [if_pos (Or.inl a1), if_pos rfl], h'⟩
  by_cases a2 : 126 < x1
  · have a3 : ¬ x1 ≤ 126 := by rw [fa_lt] at a2; rw [fa_le]; omega
    exact ⟨-102, ma, pg, ma, mp, by rw [if_neg a1, if_neg a3], by rw [if_pos (Or.inr a2), if_pos rfl], h'⟩
  have a3 : x1 ≤ 126 := by rw [fa_lt] at a2; rw [fa_le]; omega
  have a4 : ¬ x1 < 0 := by rw [fa_lt, z1] at a1; rw [fa_lt, z0]; omega
  obtain ⟨q, hq, rfl⟩ := nI_of2 (M := 126) (n := 126) (by decide) a4 a3
  have hq1 : 1 ≤ q := by
    rcases Nat.eq_zero_or_pos q with h | h
    · subst h; exact absurd (by decide) a1
    · exact h
  rw [if_neg a1, if_pos a3, if_neg (show ¬ (nI q < 1 ∨ 126 < nI q) from fun h => h.elim a1 a2), if_neg (show ¬ (1 : Int32) = 0 by decide)]
  subst e2
  by_cases h16 : n = 16
  · subst h16
    exact ⟨-104, nI 16, pg, nI 16, mp, by rw [if_neg (show ¬ nI 16 < (16 : Int32) by decide)], by rw [if_pos (show nI 16 = (16 : Int32) from rfl)], h'⟩
  · have hlt : n < 16 := by omega
    refine ⟨nI (n + 1), nI (n + 1), upd pg n (nI q), nI (n + 1), upd mp n (nI q), ?_, ?_, ⟨rfl, n + 1, by omega, rfl, fun i hi => ?_⟩⟩
    · rw [if_pos (show nI n < (16 : Int32) from nI_lt (b := 16) hlt (by omega)), gd_i hlt (by omega), nI_1, nI_clamp (by omega), chr (by omega)]
    · rw [if_neg (show ¬ nI n = (16 : Int32) from fun e => h16 ((nI_eq (b := 16) (by omega) (by omega)).mp e)), gd_i hlt (by omega), nI_1, nI_clamp (by omega)]
    · rcases Nat.eq_or_lt_of_le (Nat.le_of_lt_succ hi) with e | e
      · subst e; exact ⟨q, hq1, hq, pk_us, pk_us⟩
      · rw [pk_un (by omega), pk_un (by omega)]; exact h1 i e
/-! set, all, rule -/
theorem isPin_ok {P : Nat} (hP : P ≤ 9) (x : Int32) : f_X8_isPin 1000 (nI P) x = some (if x < 0 ∨ nI P ≤ x then 0 else 1) := by
  unfold f_X8_isPin
  rw [in_pin 1000 x hP]
  by_cases h : x < 0 ∨ nI P ≤ x
  · rw [if_pos h]; rfl
  · rw [if_neg h]; rfl
theorem hasPin_x {P : Nat} (x : Int32) : f_X1_hasPin 1000 (nI P) x = some (if x < 0 ∨ nI P ≤ x then 0 else 1) := by
  unfold f_X1_hasPin
  by_cases h1 : x < 0
  · rw [if_pos h1, if_pos (Or.inl h1)]
  · rw [if_neg h1]
    by_cases h2 : nI P ≤ x
    · rw [if_pos h2, if_pos (Or.inr h2)]
    · rw [if_neg h2, if_neg (fun h => h.elim h1 h2)]
theorem lacks_ok {P : Nat} (hP : P ≤ 9) : f_X8_lacks 1000 (nI P) = some (if P = 0 then 1 else 0) := by
  unfold f_X8_lacks
  by_cases h : P = 0
  · subst h; rfl
  · rw [if_neg (nI_ne0 (by omega) (by omega)), if_neg h]
theorem hasGreen_ok {P : Nat} (hP : P ≤ 9) : f_X7_hasGreen 1000 (nI P) = some (if P = 0 then 0 else 1) := by
  unfold f_X7_hasGreen
  by_cases h : P = 0
  · subst h; rfl
  · rw [if_neg (nI_nle (by omega) (by omega)), if_neg h]
theorem pow9 {P S : Nat} (hP : P ≤ 9) (hS : S < 2 ^ P) : S < 512 := Nat.lt_of_lt_of_le hS (Nat.pow_le_pow_right (n := 2) (by omega) (show P ≤ 9 from hP))
theorem lt_pow {P S : Nat} (h : ∀ i, P ≤ i → S.testBit i = false) : S < 2 ^ P := Nat.lt_pow_two_of_testBit S h
theorem tb_hiP {P S i : Nat} (h : S < 2 ^ P) (hi : P ≤ i) : S.testBit i = false := Nat.testBit_lt_two_pow (Nat.lt_of_lt_of_le h (Nat.pow_le_pow_right (by omega) hi))
theorem k_set {P S : Nat} (hP : P ≤ 9) (hS : S < 2 ^ P) (x1 : Int32) : ∃ (a0 : Int32) (S' : Nat), S' < 2 ^ P ∧ f_X7_set 1000 (nI P) (nI S) x1 = some (a0, nI S') ∧ f_X8_set 1000 (nI P) (nI S) x1 = some (a0, nI S') := by
  have h512 := pow9 hP hS
  unfold f_X7_set f_X8_set
  rw [hasPin_x, isPin_ok hP, ob1_s, ob1_s]
  by_cases h : x1 < 0 ∨ nI P ≤ x1
  · rw [if_pos h]
    exact ⟨-101, S, hS, rfl, rfl⟩
  · rw [if_neg h, if_neg (show ¬ (1 : Int32) = 0 by decide), if_neg (show ¬ (1 : Int32) = 0 by decide)]
    obtain ⟨j, hj, rfl⟩ : ∃ j : Nat, j < P ∧ x1 = nI j := by
      rcases pk_ix x1 (n := P) (by omega) with g | g | g
      · exact absurd (Or.inl g) h
      · exact absurd (Or.inr g) h
      · exact g
    have eb := bit9 S h512 j (by omega)
    rw [eb]
    by_cases hb : S.testBit j = true
    · rw [if_pos hb]
      exact ⟨-103, S, hS, rfl, rfl⟩
    · rw [if_neg hb, sh1 j (by omega), fa_or]
      have hS2 : S ||| 2 ^ j < 2 ^ P := Nat.or_lt_two_pow hS (Nat.pow_lt_pow_right (by omega) hj)
      have h5 := pow9 hP hS2
      refine ⟨nI (pc9 (S ||| 2 ^ j)), S ||| 2 ^ j, hS2, ?_, ?_⟩
      · rw [bitCount_ok _ h5]; rfl
      · rw [ones_ok _ h5]; rfl
