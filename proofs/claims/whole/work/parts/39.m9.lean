/-! how many strikes there are -/
def vS (S P b : Nat) (K La : Nat → Nat) (no : Nat) : Bool := canM S P b K La (no / 3) (no % 3 + 1)
theorem nI_m1 {x : Nat} (h : x < 2 ^ 31) : ¬ nI x = (-1 : Int32) := by
  intro e
  have := nI_pos h
  rw [e] at this
  exact this (by decide)
theorem mul3 {P : Nat} : (3 : Int32) * nI P = nI (3 * P) := pk_mul 3 P
theorem strikesOf_L {P b S N : Nat} {K La : Nat → Nat} {kinds laneOf : Nat → Int32} (hN : N = 1000) (hG : GWf P K La kinds laneOf) (hb : b ≤ 3) (hS : S < 512) :
    ∀ (d n no acc : Nat), no + d = 3 * P → d < n → f_X8_strikesOf_L4 N (nI S) (nI P) (nI b) laneOf kinds n (nI (acc + fb_ct (vS S P b K La) no)) (nI no) = some (nI (acc + fb_ct (vS S P b K La) (3 * P))) := by
  subst hN
  have hP := hG.1
  intro d
  induction d with
  | zero =>
    intro n no acc h1 h2
    obtain ⟨n, rfl⟩ : ∃ k, n = k + 1 := ⟨n - 1, by omega⟩
    obtain rfl : no = 3 * P := by omega
    rw [f_X8_strikesOf_L4, mul3, if_pos (nI_le (Nat.le_refl _) (by omega))]
  | succ d ih =>
    intro n no acc h1 h2
    obtain ⟨n, rfl⟩ : ∃ k, n = k + 1 := ⟨n - 1, by omega⟩
    have go := ih n (no + 1) acc (by omega) (by omega)
    rw [f_X8_strikesOf_L4, mul3, if_neg (nI_ge (by omega) (by omega)), leftBy_ok hG hS hb (by omega), ob1_s]
    simp only [jm_s]
    rw [nI_1]
    rw [fb_ct_succ] at go
    by_cases hv : canM S P b K La (no / 3) (no % 3 + 1) = true
    · have hv2 : vS S P b K La no = true := hv
      rw [if_pos hv, if_neg (nI_m1 (Nat.lt_of_lt_of_le (dif_lt hS) (by omega))), nI_1]
      rw [hv2, if_pos rfl, ← Nat.add_assoc] at go
      exact go
    · have hv2 : ¬ vS S P b K La no = true := hv
      rw [if_neg hv, if_pos rfl]
      rw [if_neg hv2, Nat.add_zero] at go
      have z : nI (acc + fb_ct (vS S P b K La) no) + 0 = nI (acc + fb_ct (vS S P b K La) no) := nI_add _ 0
      rw [z]
      exact go
theorem strikesOf_ok {P b S : Nat} {K La : Nat → Nat} {kinds laneOf : Nat → Int32} (hG : GWf P K La kinds laneOf) (hb : b ≤ 3) (hS : S < 512) : f_X8_strikesOf 1000 (nI P) (nI b) laneOf kinds (nI S) = some (nI (fb_ct (vS S P b K La) (3 * P))) := by
  have := strikesOf_L (N := 1000) rfl hG hb hS (3 * P) 1000 0 0 (by omega) (by have := hG.1; omega)
  simp only [fb_ct, Nat.zero_add] at this
  exact this
theorem howMany_L {P b S N : Nat} {K La : Nat → Nat} {size tr tl : Int32} {fi co ta : Nat → Int32} (hP : P ≤ 9) (hmo : mono P La) (h : StrR P b K La size tr tl fi co ta) (hb : b ≤ 3) :
    ∀ (d n no acc : Nat), no + d = 3 * P → d < n → f_X6_howMany_L4 N (nI S) size ta n (nI (acc + fb_ct (vS S P b K La) no)) (nI (fb_ct (cand P b K La) no)) = some (nI (acc + fb_ct (vS S P b K La) (3 * P))) := by
  obtain ⟨⟨hs, hl⟩, -, -⟩ := h
  have hk := fb_ct_le (cand P b K La) (3 * P)
  intro d
  induction d with
  | zero =>
    intro n no acc h1 h2
    obtain ⟨n, rfl⟩ : ∃ k, n = k + 1 := ⟨n - 1, by omega⟩
    obtain rfl : no = 3 * P := by omega
    rw [f_X6_howMany_L4, hs, if_pos (nI_le (Nat.le_refl _) (by omega))]
  | succ d ih =>
    intro n no acc h1 h2
    have hv0 : vS S P b K La no = (cand P b K La no && allI (fun p => S.testBit p) (no / 3) (no % 3 + 1)) := cand_canM hmo
    by_cases hc : cand P b K La no = true
    · obtain ⟨n, rfl⟩ : ∃ k, n = k + 1 := ⟨n - 1, by omega⟩
      have go := ih n (no + 1) acc (by omega) (by omega)
      have hi := cand_ix hc
      obtain ⟨c1, c2, c3⟩ := cand_lt hc
      obtain ⟨-, -, l3⟩ := hl no c1 hc
      rw [fb_ct_succ, fb_ct_succ, hc, if_pos rfl] at go
      rw [f_X6_howMany_L4, hs, if_neg (nI_ge hi (by omega))]
      generalize fb_ct (cand P b K La) no = i at hi l3 go ⊢
      rw [gd_i (show i < 27 by omega) (by omega), gd_i (show i < 27 by omega) (by omega), nI_clamp (show i < 2 ^ 31 by omega), l3]
      simp only [jm_s]
      have run := and_run (S := S) (l := no / 3) (r := no / 3 + no % 3) (by omega) (by omega) (by omega)
      rw [show no / 3 + no % 3 + 1 - no / 3 = no % 3 + 1 by omega] at run
      rw [hc, Bool.true_and] at hv0
      rw [nI_1, nI_1, ← hs]
      by_cases ha : allI (fun p => S.testBit p) (no / 3) (no % 3 + 1) = true
      · rw [if_pos (run.mpr ha)]
        rw [hv0.trans ha, if_pos rfl, ← Nat.add_assoc] at go
        exact go
      · rw [if_neg (fun h => ha (run.mp h))]
        rw [if_neg (by rw [hv0]; exact ha), Nat.add_zero] at go
        exact go
    · have go := ih n (no + 1) acc (by omega) (by omega)
      rw [Bool.not_eq_true] at hc
      rw [hc, Bool.false_and] at hv0
      rw [fb_ct_succ, fb_ct_succ, hc, hv0] at go
      simpa using go
theorem howMany_ok {P b S : Nat} {K La : Nat → Nat} {size tr tl : Int32} {fi co ta : Nat → Int32} (hP : P ≤ 9) (hmo : mono P La) (h : StrR P b K La size tr tl fi co ta) (hb : b ≤ 3) : f_X6_howMany 1000 size ta (nI S) = some (nI (fb_ct (vS S P b K La) (3 * P))) := by
  have := howMany_L (S := S) (N := 1000) hP hmo h hb (3 * P) 1000 0 0 (by omega) (by omega)
  simp only [fb_ct, Nat.zero_add] at this
  exact this
