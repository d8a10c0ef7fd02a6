theorem pin_x {P : Nat} (hP : P ≤ 9) {x : Int32} (h : ¬ (x < 0 ∨ nI P ≤ x)) : ∃ j : Nat, j < P ∧ x = nI j := by
  rcases pk_ix x (n := P) (by omega) with g | g | g
  · exact absurd (Or.inl g) h
  · exact absurd (Or.inr g) h
  · exact g
theorem in13 (x : Int32) : f_X8_in 1000 x.toInt64 (1 : Int64) (3 : Int64) = some (if x < 1 ∨ 3 < x then 0 else 1) := in_lit 1000 x 1 3
theorem in04 (x : Int32) : f_X8_in 1000 x.toInt64 (0 : Int64) (4 : Int64) = some (if x < 0 ∨ 4 < x then 0 else 1) := in_lit 1000 x 0 4
theorem isBall_x (x : Int32) : f_X7_isBall 1000 x = some (if x < 1 ∨ 3 < x then 0 else 1) := by
  unfold f_X7_isBall
  by_cases h1 : x < 1
  · rw [if_pos h1, if_pos (Or.inl h1)]
  · rw [if_neg h1]
    by_cases h2 : 3 < x
    · rw [if_pos h2, if_pos (Or.inr h2)]
    · rw [if_neg h2, if_neg (fun h => h.elim h1 h2)]
theorem five (x : Int32) : (5 ≤ x) ↔ 4 < x := by
  rw [fa_le, fa_lt]
  have z1 : (5 : Int32).toInt = 5 := by decide
  have z2 : (4 : Int32).toInt = 4 := by decide
  omega
theorem isKind_x (x : Int32) : f_X7_isKind 1000 x = some (if x < 0 ∨ 4 < x then 0 else 1) := by
  unfold f_X7_isKind
  by_cases h1 : x < 0
  · rw [if_pos h1, if_pos (Or.inl h1)]
  · rw [if_neg h1]
    by_cases h2 : 4 < x
    · rw [if_pos ((five x).mpr h2), if_pos (Or.inr h2)]
    · rw [if_neg (fun h => h2 ((five x).mp h)), if_neg (fun h => h.elim h1 h2)]
theorem ball_x {x : Int32} (h : ¬ (x < 1 ∨ 3 < x)) : ∃ m : Nat, 1 ≤ m ∧ m ≤ 3 ∧ x = nI m := by
  have z1 : (1 : Int32).toInt = 1 := by decide
  have z0 : (0 : Int32).toInt = 0 := by decide
  have z3 : (3 : Int32).toInt = 3 := by decide
  have h1 : ¬ x < 0 := fun g => h (Or.inl (by rw [fa_lt] at g ⊢; omega))
  have h2 : x ≤ 3 := by
    have : ¬ 3 < x := fun g => h (Or.inr g)
    rw [fa_lt] at this; rw [fa_le]; omega
  obtain ⟨j, hj, rfl⟩ := nI_of2 (M := 3) (n := 3) (by decide) h1 h2
  refine ⟨j, ?_, hj, rfl⟩
  rcases Nat.eq_zero_or_pos j with g | g
  · subst g; exact absurd (Or.inl (by decide)) h
  · exact g
theorem kind_x {x : Int32} (h : ¬ (x < 0 ∨ 4 < x)) : ∃ k : Nat, k < 5 ∧ x = nI k := by
  have h2 : x ≤ 4 := by
    have : ¬ 4 < x := fun g => h (Or.inr g)
    rw [fa_lt] at this; rw [fa_le]; omega
  obtain ⟨j, hj, rfl⟩ := nI_of2 (M := 4) (n := 4) (by decide) (fun g => h (Or.inl g)) h2
  exact ⟨j, by omega, rfl⟩
theorem n10 : ¬ (1 : Int32) = 0 := by decide
set_option maxRecDepth 100000 in
theorem allUp9 : ∀ P, P < 10 → ((1 : Int32) <<< (nI P &&& 31)) - (1 : Int32) = nI (2 ^ P - 1) := by decide +kernel
theorem k_all {P S : Nat} (hP : P ≤ 9) (hS : S < 2 ^ P) : ∃ (a0 : Int32) (S' : Nat), S' < 2 ^ P ∧ f_X7_all 1000 (nI P) (nI S) = some (a0, nI S') ∧ f_X8_all 1000 (nI P) (nI S) = some (a0, nI S') := by
  have h512 := pow9 hP hS
  unfold f_X7_all f_X8_all f_X1_setAllUp
  rw [hasGreen_ok hP, lacks_ok hP, ob1_s, ob1_s]
  by_cases h : P = 0
  · rw [if_pos h, if_pos h]
    exact ⟨-103, S, hS, rfl, rfl⟩
  · rw [if_neg h, if_neg h, if_neg n10, if_pos rfl, bitCount_ok _ h512, ones_ok _ h512, ob1_s, ob1_s, ob1_s, allUp9 P (by omega)]
    exact ⟨_, 2 ^ P - 1, by have := Nat.two_pow_pos P; omega, rfl, rfl⟩
theorem k_rule {P law : Nat} (hP : P ≤ 9) (hl : law ≤ 1) (old : Int32) (h0 : P = 0 → law = 0) : ∃ (a0 o : Int32) (law' : Nat), law' ≤ 1 ∧ f_X7_rule 1000 old (nI P) (nI law) = some (a0, o, nI law') ∧ f_X8_rule 1000 (nI P) (nI law) = some (a0, nI law') ∧ ((o = old ∧ law' = law) ∨ o = 1) ∧ (P = 0 → law' = 0) := by
  unfold f_X7_rule f_X8_rule
  rw [hasGreen_ok hP, lacks_ok hP, ob1_s, ob1_s]
  by_cases h : P = 0
  · rw [if_pos h, if_pos h]
    exact ⟨-103, old, law, hl, rfl, rfl, Or.inl ⟨rfl, rfl⟩, h0⟩
  · rw [if_neg h, if_neg h, if_neg n10, if_pos rfl]
    simp only [jm_s]
    have : law = 0 ∨ law = 1 := by omega
    rcases this with rfl | rfl
    · exact ⟨nI 0, 1, 1, by omega, rfl, by decide, Or.inr rfl, fun e => absurd e h⟩
    · exact ⟨nI 1, 1, 0, by omega, rfl, by decide, Or.inr rfl, fun _ => rfl⟩
theorem strikesChanged_ok {P b : Nat} {K La : Nat → Nat} {kinds laneOf : Nat → Int32} (hG : GWf P K La kinds laneOf) (hb : b ≤ 3) (fi co ta : Nat → Int32) : ∃ (size tr tl : Int32) (fi' co' ta' : Nat → Int32), f_X7_strikesChanged 1000 (nI P) (nI b) laneOf kinds fi co ta = some (1, size, tr, tl, fi', co', ta') ∧ StrR P b K La size tr tl fi' co' ta' := by
  obtain ⟨s, r, l, f, c, t, h1, h2⟩ := listFor_ok hG hb fi co ta
  refine ⟨s, r, l, f, c, t, ?_, h2⟩
  unfold f_X7_strikesChanged
  rw [h1, ob6_s]
theorem k_ball {P b : Nat} {K La : Nat → Nat} {kinds laneOf : Nat → Int32} (hG : GWf P K La kinds laneOf) (hb : b ≤ 3) (h0 : P = 0 → b = 0) (h1 : 0 < P → 1 ≤ b) {old size tr tl : Int32} {fi co ta : Nat → Int32} (hR : StrR P b K La size tr tl fi co ta) (x1 : Int32) :
    ∃ (a0 o : Int32) (b' : Nat) (size' tr' tl' : Int32) (fi' co' ta' : Nat → Int32), b' ≤ 3 ∧ (P = 0 → b' = 0) ∧ (0 < P → 1 ≤ b') ∧ f_X7_ball 1000 old (nI P) (nI b) size tr tl laneOf kinds fi co ta x1 = some (a0, o, nI b', size', tr', tl', fi', co', ta') ∧ f_X8_ball 1000 (nI P) (nI b) x1 = some (a0, nI b') ∧ StrR P b' K La size' tr' tl' fi' co' ta' ∧ ((o = old ∧ b' = b) ∨ o = 1) := by
  have hP := hG.1
  unfold f_X7_ball f_X8_ball
  rw [isBall_x, in13, ob1_s, ob1_s]
  by_cases h : x1 < 1 ∨ 3 < x1
  · rw [if_pos h]
    exact ⟨-102, old, b, size, tr, tl, fi, co, ta, hb, h0, h1, rfl, rfl, hR, Or.inl ⟨rfl, rfl⟩⟩
  · rw [if_neg h, if_neg n10, if_neg n10, hasGreen_ok hP, lacks_ok hP, ob1_s, ob1_s]
    by_cases hz : P = 0
    · rw [if_pos hz, if_pos hz]
      exact ⟨-103, old, b, size, tr, tl, fi, co, ta, hb, h0, h1, rfl, rfl, hR, Or.inl ⟨rfl, rfl⟩⟩
    · obtain ⟨m, m1, m2, rfl⟩ := ball_x h
      obtain ⟨s, r, l, f, c, t, q1, q2⟩ := strikesChanged_ok hG m2 fi co ta
      rw [if_neg hz, if_neg hz, if_neg n10, if_pos rfl, q1, ob7_s]
      exact ⟨nI b, 1, m, s, r, l, f, c, t, m2, fun e => absurd e hz, fun _ => m1, rfl, rfl, q2, Or.inr rfl⟩
theorem GWf.put {P j k : Nat} {K La : Nat → Nat} {kinds laneOf : Nat → Int32} (hG : GWf P K La kinds laneOf) (hk : k < 5) : GWf P (fun i => if i = j then k else K i) La (upd kinds j (nI k)) laneOf := by
  refine ⟨hG.1, fun i hi => ?_⟩
  obtain ⟨g1, g2, g3, g4⟩ := hG.2 i hi
  by_cases e : i = j
  · subst e
    simp only [if_pos rfl]
    exact ⟨pk_us, hk, g3, g4⟩
  · simp only [if_neg e]
    rw [pk_un e]
    exact ⟨g1, g2, g3, g4⟩
theorem k_change {P b : Nat} {K La : Nat → Nat} {kinds laneOf mk ml : Nat → Int32} (hG : GWf P K La kinds laneOf) (hM : GWf P K La mk ml) (hb : b ≤ 3) {old size tr tl : Int32} {fi co ta : Nat → Int32} (hR : StrR P b K La size tr tl fi co ta) (x1 x2 : Int32) :
    ∃ (a0 o : Int32) (K' : Nat → Nat) (kinds' mk' : Nat → Int32) (size' tr' tl' : Int32) (fi' co' ta' : Nat → Int32), GWf P K' La kinds' laneOf ∧ GWf P K' La mk' ml ∧ f_X7_change 1000 old (nI P) (nI b) kinds size tr tl laneOf fi co ta x1 x2 = some (a0, o, kinds', size', tr', tl', fi', co', ta') ∧ f_X8_change 1000 (nI P) mk x1 x2 = some (a0, mk') ∧ StrR P b K' La size' tr' tl' fi' co' ta' ∧ ((o = old ∧ K' = K) ∨ o = 1) := by
  have hP := hG.1
  unfold f_X7_change f_X8_change
  rw [hasPin_x, isPin_ok hP, ob1_s, ob1_s]
  by_cases h : x1 < 0 ∨ nI P ≤ x1
  · rw [if_pos h]
    exact ⟨-101, old, K, kinds, mk, size, tr, tl, fi, co, ta, hG, hM, rfl, rfl, hR, Or.inl ⟨rfl, rfl⟩⟩
  · rw [if_neg h, if_neg n10, if_neg n10, isKind_x, in04, ob1_s, ob1_s]
    by_cases h2 : x2 < 0 ∨ 4 < x2
    · rw [if_pos h2]
      exact ⟨-102, old, K, kinds, mk, size, tr, tl, fi, co, ta, hG, hM, rfl, rfl, hR, Or.inl ⟨rfl, rfl⟩⟩
    · obtain ⟨j, hj, rfl⟩ := pin_x hP h
      obtain ⟨k, hk, rfl⟩ := kind_x h2
      have g1 := (hG.2 j hj).1
      have g2 := (hM.2 j hj).1
      obtain ⟨s, r, l, f, c, t, q1, q2⟩ := strikesChanged_ok (hG.put (j := j) hk) hb fi co ta
      rw [if_neg h2, if_neg n10, if_neg n10, gd_i (show j < 9 by omega) (by omega), gd_i (show j < 9 by omega) (by omega), gd_i (show j < 9 by omega) (by omega), gd_i (show j < 9 by omega) (by omega), nI_clamp (show j < 2 ^ 31 by omega), q1, ob7_s, g1, g2]
      exact ⟨nI (K j), 1, _, _, _, s, r, l, f, c, t, hG.put hk, hM.put hk, rfl, rfl, q2, Or.inr rfl⟩
theorem k_as {P : Nat} {K La : Nat → Nat} {kinds laneOf mk ml : Nat → Int32} (hG : GWf P K La kinds laneOf) (hM : GWf P K La mk ml) (x1 x2 : Int32) : ∃ a0 : Int32, f_X7_as 1000 (nI P) kinds x1 x2 = some a0 ∧ f_X8_as 1000 (nI P) mk x1 x2 = some a0 := by
  have hP := hG.1
  unfold f_X7_as f_X8_as
  rw [hasPin_x, isPin_ok hP, ob1_s, ob1_s]
  by_cases h : x1 < 0 ∨ nI P ≤ x1
  · rw [if_pos h]
    exact ⟨-101, rfl, rfl⟩
  · rw [if_neg h, if_neg n10, if_neg n10, isKind_x, in04, ob1_s, ob1_s]
    by_cases h2 : x2 < 0 ∨ 4 < x2
    · rw [if_pos h2]
      exact ⟨-102, rfl, rfl⟩
    · obtain ⟨j, hj, rfl⟩ := pin_x hP h
      obtain ⟨k, hk, rfl⟩ := kind_x h2
      obtain ⟨g1, g3, -, -⟩ := hG.2 j hj
      have g2 := (hM.2 j hj).1
      simp only [jm_s]
      rw [if_neg h2, if_neg n10, if_neg n10, gd_i (show j < 9 by omega) (by omega), gd_i (show j < 9 by omega) (by omega), gd_i (show j < 9 by omega) (by omega), nI_clamp (show j < 2 ^ 31 by omega), g1, g2]
      unfold f_X7_isAlso
      have e1 : (nI k = 0) ↔ k = 0 := nI_eq (b := 0) (by omega) (by omega)
      have e2 : (nI (K j) = nI k) ↔ K j = k := nI_eq (by omega) (by omega)
      have e3 : (nI k = nI (K j)) ↔ K j = k := (nI_eq (by omega) (by omega)).trans eq_comm
      have e4 : (nI (K j) = 4) ↔ K j = 4 := nI_eq (b := 4) (by omega) (by omega)
      have e5 : (nI k = 1) ↔ k = 1 := nI_eq (b := 1) (by omega) (by omega)
      simp only [e1, e2, e3, e4, e5]
      by_cases c1 : k = 0
      · simp only [c1, if_true, ob1_s]; exact ⟨_, rfl, rfl⟩
      · by_cases c2 : K j = k
        · simp only [c1, c2, if_true, if_false, ob1_s]; exact ⟨_, rfl, rfl⟩
        · by_cases c4 : K j = 4
          · by_cases c5 : k = 1
            · simp only [c1, c2, c4, c5, if_true, if_false, ob1_s]
              have : ¬ (1 : Nat) = 0 := by decide
              have : ¬ (4 : Nat) = 1 := by decide
              simp [ob1_s]
            · simp [c1, c2, c4, c5, ob1_s]
              by_cases c6 : 4 = k
              · exact absurd (c4.trans c6) c2
              · simp [c6, ob1_s]
          · by_cases c5 : k = 1
            · simp [c1, c2, c4, c5, ob1_s]
              have : ¬ K j = 1 := fun e => c2 (e.trans c5.symm)
              simp [this, ob1_s]
            · simp [c1, c2, c4, c5, ob1_s]
