/-! what can be taken: reference (canBe) and class (canBeTaken), as one Bool -/
def allI (q : Nat → Bool) : Nat → Nat → Bool
  | _, 0 => true
  | f, m + 1 => q f && allI q (f + 1) m
theorem allI_iff {q : Nat → Bool} : ∀ {m f : Nat}, allI q f m = true ↔ ∀ p, f ≤ p → p < f + m → q p = true
  | 0, f => by simp [allI]; intro p h1 h2; omega
  | m + 1, f => by
    rw [allI, Bool.and_eq_true, allI_iff (m := m) (f := f + 1)]
    constructor
    · intro h p h1 h2
      rcases Nat.eq_or_lt_of_le h1 with e | e
      · exact e ▸ h.1
      · exact h.2 p (by omega) (by omega)
    · intro h
      exact ⟨h f (Nat.le_refl f) (by omega), fun p h1 h2 => h p (by omega) (by omega)⟩
def GWf (P : Nat) (K La : Nat → Nat) (kinds laneOf : Nat → Int32) : Prop := P ≤ 9 ∧ ∀ i, i < P → kinds i = nI (K i) ∧ K i < 5 ∧ laneOf i = nI (La i) ∧ La i < 3
/-- of the kind of one that is taken among m -/
def kOk (K : Nat → Nat) (m p : Nat) : Bool := !decide (K p = 3) && (!decide (K p = 2) || decide (m = 1))
def cq (S : Nat) (K La : Nat → Nat) (f m p : Nat) : Bool := S.testBit p && (decide (La p = La f) && kOk K m p)
def canM (S P b : Nat) (K La : Nat → Nat) (f m : Nat) : Bool := decide (m ≤ b) && (decide (f + m ≤ P) && allI (cq S K La f m) f m)
theorem z01 (c : Bool) : nI (if c = true then 1 else 0) = 0 ↔ c = false := by cases c <;> decide
theorem bz01 (c : Bool) : bz (nI (if c = true then 1 else 0)) = true := by cases c <;> decide
theorem canBe_L {S P f m N : Nat} {K La : Nat → Nat} {kinds laneOf : Nat → Int32} (hG : GWf P K La kinds laneOf) (hS : S < 512) (hm : f + m ≤ P) (hm3 : m ≤ 3) :
    ∀ (d n p : Nat) (c : Bool), p + d = f + m → f ≤ p → d < n → f_X8_canBe_L28 N (nI S) (nI f) (nI m) laneOf kinds n (nI (if c = true then 1 else 0)) (nI p) = some (nI (if (c && allI (cq S K La f m) p d) = true then 1 else 0)) := by
  obtain ⟨hP, hg⟩ := hG
  intro d
  induction d with
  | zero =>
    intro n p c h1 h2 h3
    obtain ⟨n, rfl⟩ : ∃ k, n = k + 1 := ⟨n - 1, by omega⟩
    rw [f_X8_canBe_L28, nI_add, if_pos (nI_le (by omega) (by omega)), gd_t (bz01 c), allI, Bool.and_true]
  | succ d ih =>
    intro n p c h1 h2 h3
    obtain ⟨n, rfl⟩ : ∃ k, n = k + 1 := ⟨n - 1, by omega⟩
    rw [f_X8_canBe_L28, nI_add, if_neg (nI_ge (by omega) (by omega))]
    cases c with
    | false =>
      rw [if_pos ((z01 false).mpr rfl), gd_t (bz01 false), Bool.false_and]
    | true =>
      rw [if_neg (fun h => by cases (z01 true).mp h)]
      obtain ⟨k1, k2, k3, k4⟩ := hg p (by omega)
      obtain ⟨-, -, k5, k6⟩ := hg f (by omega)
      have one : ∀ c : Bool, f_X8_canBe_L28 N (nI S) (nI f) (nI m) laneOf kinds n (nI (if c = true then 1 else 0)) (nI p + 1) = some (nI (if (c && allI (cq S K La f m) (p + 1) d) = true then 1 else 0)) := fun c => by
        rw [nI_1]
        exact ih n (p + 1) c (by omega) (by omega) (by omega)
      have o1 := one true
      have o0 := one false
      rw [Bool.false_and] at o0
      rw [Bool.true_and] at o1
      have o0 : f_X8_canBe_L28 N (nI S) (nI f) (nI m) laneOf kinds n 0 (nI p + 1) = some (nI 0) := o0
      have o1 : f_X8_canBe_L28 N (nI S) (nI f) (nI m) laneOf kinds n 1 (nI p + 1) = _ := o1
      simp only [jm_s]
      rw [bit9 S hS p (by omega), gd_i (show p < 9 by omega) (by omega), gd_i (show f < 9 by omega) (by omega), gd_i (show p < 9 by omega) (by omega), gd_i (show p < 9 by omega) (by omega), nI_clamp (show p < 2 ^ 31 by omega), nI_clamp (show f < 2 ^ 31 by omega), k1, k3, k5, o0, o1, allI, Bool.true_and]
      have e1 : (nI (if S.testBit p = true then 1 else 0) = 1) ↔ S.testBit p = true := by cases S.testBit p <;> decide
      have e2 : (nI (La p) = nI (La f)) ↔ La p = La f := nI_eq (by omega) (by omega)
      have e3 : (nI (K p) = 3) ↔ K p = 3 := nI_eq (b := 3) (by omega) (by omega)
      have e4 : (nI (K p) = 2) ↔ K p = 2 := nI_eq (b := 2) (by omega) (by omega)
      have e5 : (nI m = 1) ↔ m = 1 := nI_eq (b := 1) (by omega) (by omega)
      simp only [e1, e2, e3, e4, e5]
      unfold cq kOk
      by_cases a1 : S.testBit p = true
      · by_cases a2 : La p = La f
        · by_cases a3 : K p = 3
          · simp [a1, a2, a3]
          · by_cases a4 : K p = 2
            · by_cases a5 : m = 1
              · simp [a1, a2, a4, a5]
              · simp [a1, a2, a4, a5]
            · simp [a1, a2, a3, a4]
        · simp [a1, a2]
      · simp [a1]
theorem canBe_ok {S P b f m : Nat} {K La : Nat → Nat} {kinds laneOf : Nat → Int32} (hG : GWf P K La kinds laneOf) (hS : S < 512) (hb : b ≤ 3) (hf : f < 10) (hm1 : 1 ≤ m) (hm : m ≤ 3) : f_X8_canBe 1000 (nI P) (nI b) laneOf kinds (nI S) (nI f) (nI m) = some (nI (if canM S P b K La f m = true then 1 else 0)) := by
  have hP := hG.1
  have zero : f_X8_canBe_L28 1000 (nI S) (nI f) (nI m) laneOf kinds 1000 0 (nI f) = some (nI 0) := by
    rw [f_X8_canBe_L28, nI_add, if_neg (nI_ge (by omega) (by omega)), if_pos rfl]
    rfl
  unfold f_X8_canBe canM
  simp only [jm_s]
  rw [nI_add]
  by_cases h1 : m ≤ b
  · rw [if_neg (nI_nlt h1 (by omega))]
    by_cases h2 : f + m ≤ P
    · rw [if_neg (nI_nlt h2 (by omega)), decide_eq_true h1, decide_eq_true h2, Bool.true_and, Bool.true_and]
      have := canBe_L (N := 1000) hG hS h2 hm m 1000 f true (by omega) (Nat.le_refl f) (by omega)
      rw [Bool.true_and] at this
      exact this
    · rw [if_pos (nI_lt (by omega) (by omega)), zero, decide_eq_false h2]
      simp
  · rw [if_pos (nI_lt (by omega) (by omega)), zero, decide_eq_false h1]
    simp
