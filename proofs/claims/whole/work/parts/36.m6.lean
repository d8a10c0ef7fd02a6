/-! the class's side: canBeTaken, takesAlong, the list of strikes -/
def canT (P : Nat) (K La : Nat → Nat) (f m : Nat) : Bool := decide (f + m ≤ P) && (decide (La f = La (f + m - 1)) && allI (kOk K m) f m)
theorem hasPin_ok {P p N : Nat} (hP : P ≤ 9) (hp : p < 2 ^ 31) : f_X1_hasPin N (nI P) (nI p) = some (nI (if decide (p < P) = true then 1 else 0)) := by
  unfold f_X1_hasPin
  rw [if_neg (nI_pos hp)]
  by_cases h : p < P
  · rw [if_neg (nI_ge h (by omega)), decide_eq_true h]; rfl
  · rw [if_pos (nI_le (by omega) hp), decide_eq_false h]; rfl
theorem canBeTaken_L {P m N : Nat} {K La : Nat → Nat} {kinds laneOf : Nat → Int32} (hG : GWf P K La kinds laneOf) (hm1 : 1 ≤ m) (hm3 : m ≤ 3) {e : Nat} (he : e ≤ P) (he1 : 1 ≤ e) :
    ∀ (d n p : Nat), p + d = e → d < n → f_X1_canBeTaken_L42 N (nI m) (nI (e - 1)) kinds n (nI p) = some (nI (if allI (kOk K m) p d = true then 1 else 0)) := by
  obtain ⟨hP, hg⟩ := hG
  intro d
  induction d with
  | zero =>
    intro n p h1 h2
    obtain ⟨n, rfl⟩ : ∃ k, n = k + 1 := ⟨n - 1, by omega⟩
    rw [f_X1_canBeTaken_L42, if_pos (nI_lt (by omega) (by omega)), allI]; rfl
  | succ d ih =>
    intro n p h1 h2
    obtain ⟨n, rfl⟩ : ∃ k, n = k + 1 := ⟨n - 1, by omega⟩
    obtain ⟨k1, k2, -, -⟩ := hg p (by omega)
    have go := ih n (p + 1) (by omega) (by omega)
    rw [f_X1_canBeTaken_L42, if_neg (nI_nlt (by omega) (by omega)), gd_i (show p < 9 by omega) (by omega), gd_i (show p < 9 by omega) (by omega), nI_clamp (show p < 2 ^ 31 by omega), k1]
    simp only [jm_s]
    rw [nI_1, go, allI]
    have e2 : (nI (K p) = 2) ↔ K p = 2 := nI_eq (b := 2) (by omega) (by omega)
    have e3 : (nI (K p) = 3) ↔ K p = 3 := nI_eq (b := 3) (by omega) (by omega)
    have e5 : (nI m ≤ 1) ↔ m ≤ 1 := nI_leI (b := 1) (by omega) (by omega)
    simp only [e2, e3, e5]
    unfold kOk
    by_cases a3 : K p = 3
    · simp [a3]; rfl
    · by_cases a2 : K p = 2
      · by_cases a5 : m = 1
        · simp [a2, a5]
        · have a6 : ¬ m ≤ 1 := by omega
          simp [a2, a5, a6]; rfl
      · simp [a2, a3]
theorem canBeTaken_ok {P f m : Nat} {K La : Nat → Nat} {kinds laneOf : Nat → Int32} (hG : GWf P K La kinds laneOf) (hf : f < 9) (hm1 : 1 ≤ m) (hm3 : m ≤ 3) : f_X1_canBeTaken 1000 (nI P) laneOf kinds (nI f) (nI m) = some (nI (if canT P K La f m = true then 1 else 0)) := by
  have hP := hG.1
  unfold f_X1_canBeTaken canT
  have el : nI f + nI m - (1 : Int32) = nI (f + m - 1) := by
    rw [nI_add]; obtain ⟨j, hj⟩ : ∃ j, f + m = j + 1 := ⟨f + m - 1, by omega⟩
    rw [hj, nI_pred, Nat.add_sub_cancel]
  rw [hasPin_ok hP (by omega), ob1_s, el]
  by_cases h1 : f < P
  · rw [decide_eq_true h1, if_neg (by decide), hasPin_ok hP (by omega), ob1_s]
    by_cases h2 : f + m ≤ P
    · rw [decide_eq_true (show f + m - 1 < P by omega), if_neg (by decide), decide_eq_true h2, gd_i (show f < 9 by omega) (by omega), gd_i (show f + m - 1 < 9 by omega) (by omega), nI_clamp (show f < 2 ^ 31 by omega), nI_clamp (show f + m - 1 < 2 ^ 31 by omega)]
      obtain ⟨-, -, k3, k4⟩ := hG.2 f h1
      obtain ⟨-, -, q3, q4⟩ := hG.2 (f + m - 1) (by omega)
      rw [k3, q3]
      by_cases h3 : La f = La (f + m - 1)
      · rw [if_pos (by rw [h3]), decide_eq_true h3, canBeTaken_L (N := 1000) hG hm1 hm3 h2 (by omega) m 1000 f (by omega) (by omega)]
        simp
      · rw [if_neg (fun h => h3 ((nI_eq (by omega) (by omega)).mp h)), decide_eq_false h3]; rfl
    · rw [decide_eq_false (show ¬ f + m - 1 < P by omega), decide_eq_false h2]; rfl
  · rw [decide_eq_false h1, decide_eq_false (show ¬ f + m ≤ P by omega)]; rfl
theorem isAlso1 {k N : Nat} (hk : k < 5) : f_X7_isAlso N (nI k) (1 : Int32) = some (nI (if (decide (k = 1) || decide (k = 4)) = true then 1 else 0)) := by
  unfold f_X7_isAlso
  have : k = 0 ∨ k = 1 ∨ k = 2 ∨ k = 3 ∨ k = 4 := by omega
  rcases this with rfl | rfl | rfl | rfl | rfl <;> decide
theorem isAlso4 {k N : Nat} (hk : k < 5) : f_X7_isAlso N (nI k) (4 : Int32) = some (nI (if decide (k = 4) = true then 1 else 0)) := by
  unfold f_X7_isAlso
  have : k = 0 ∨ k = 1 ∨ k = 2 ∨ k = 3 ∨ k = 4 := by omega
  rcases this with rfl | rfl | rfl | rfl | rfl <;> decide
theorem takesR_ok {P p N : Nat} {K La : Nat → Nat} {kinds laneOf : Nat → Int32} (hG : GWf P K La kinds laneOf) (hp : p < P) : f_X1_takesAlong N (nI P) laneOf kinds (nI p) (nI (p + 1)) = some (nI (if gR P K La p = true then 1 else 0)) := by
  have hP := hG.1
  unfold f_X1_takesAlong gR tk
  simp only [jm_s]
  rw [hasPin_ok hP (by omega), ob1_s, decide_eq_true hp, if_neg (by decide), hasPin_ok hP (by omega), ob1_s]
  by_cases h : p + 1 < P
  · obtain ⟨k1, k2, k3, k4⟩ := hG.2 p hp
    obtain ⟨q1, q2, q3, q4⟩ := hG.2 (p + 1) h
    rw [decide_eq_true h, if_neg (by decide), gd_i (show p < 9 by omega) (by omega), gd_i (show p + 1 < 9 by omega) (by omega), gd_i (show p < 9 by omega) (by omega), nI_clamp (show p < 2 ^ 31 by omega), nI_clamp (show p + 1 < 2 ^ 31 by omega), k1, k3, q1, q3, if_neg (nI_ge (show p < p + 1 by omega) (by omega)), isAlso1 k2, ob1_s, gd_i (show p + 1 < 9 by omega) (by omega), gd_i (show p + 1 < 9 by omega) (by omega)]
    have e1 : (nI (La p) = nI (La (p + 1))) ↔ La (p + 1) = La p := (nI_eq (by omega) (by omega)).trans eq_comm
    have e2 : (nI (K (p + 1)) = 2) ↔ K (p + 1) = 2 := nI_eq (b := 2) (by omega) (by omega)
    have e3 : (nI (K (p + 1)) = 3) ↔ K (p + 1) = 3 := nI_eq (b := 3) (by omega) (by omega)
    simp only [e1, e2, e3, b01]
    unfold ln
    by_cases a1 : La (p + 1) = La p
    · by_cases a0 : (decide (K p = 1) || decide (K p = 4)) = true
      · by_cases a2 : K (p + 1) = 2
        · simp [a1, a2]; intros; rfl
        · by_cases a3 : K (p + 1) = 3
          · simp [a1, a3]; intros; rfl
          · rw [a0]; simp [a1, a2, a3]; rfl
      · rw [Bool.not_eq_true] at a0
        rw [a0]; simp [a1]; rfl
    · simp [a1]; rfl
  · rw [decide_eq_false h, if_pos (show nI (if false = true then 1 else 0) = (0 : Int32) from rfl)]; simp; rfl
theorem takesL_ok {P p N : Nat} {K La : Nat → Nat} {kinds laneOf : Nat → Int32} (hG : GWf P K La kinds laneOf) (hp : p < P) : f_X1_takesAlong N (nI P) laneOf kinds (nI p) (nI p - 1) = some (nI (if gL P K La p = true then 1 else 0)) := by
  have hP := hG.1
  unfold f_X1_takesAlong gL tk
  simp only [jm_s]
  rw [hasPin_ok hP (by omega), ob1_s, decide_eq_true hp, if_neg (by decide)]
  rcases Nat.eq_zero_or_pos p with h0 | h0
  · subst h0
    have : f_X1_hasPin N (nI P) (nI 0 - 1) = some 0 := by
      unfold f_X1_hasPin
      rw [if_pos (by decide)]
    rw [this, ob1_s, if_pos rfl]; simp; rfl
  · obtain ⟨j, rfl⟩ : ∃ j, p = j + 1 := ⟨p - 1, by omega⟩
    rw [nI_pred, hasPin_ok hP (by omega), ob1_s, Nat.add_sub_cancel]
    obtain ⟨k1, k2, k3, k4⟩ := hG.2 (j + 1) hp
    obtain ⟨q1, q2, q3, q4⟩ := hG.2 j (by omega)
    rw [decide_eq_true (show j < P by omega), if_neg (by decide), gd_i (show j + 1 < 9 by omega) (by omega), gd_i (show j < 9 by omega) (by omega), gd_i (show j + 1 < 9 by omega) (by omega), nI_clamp (show j < 2 ^ 31 by omega), nI_clamp (show j + 1 < 2 ^ 31 by omega), k1, k3, q1, q3, if_pos (nI_le (show j ≤ j + 1 by omega) (by omega)), isAlso4 k2, ob1_s, gd_i (show j < 9 by omega) (by omega), gd_i (show j < 9 by omega) (by omega)]
    have e1 : (nI (La (j + 1)) = nI (La j)) ↔ La j = La (j + 1) := (nI_eq (by omega) (by omega)).trans eq_comm
    have e2 : (nI (K j) = 2) ↔ K j = 2 := nI_eq (b := 2) (by omega) (by omega)
    have e3 : (nI (K j) = 3) ↔ K j = 3 := nI_eq (b := 3) (by omega) (by omega)
    simp only [e1, e2, e3, b01]
    by_cases a1 : La j = La (j + 1)
    · by_cases a0 : K (j + 1) = 4
      · by_cases a2 : K j = 2
        · simp [a1, a2]; intros; rfl
        · by_cases a3 : K j = 3
          · simp [a1, a3]; intros; rfl
          · simp [a0, a1, a2, a3]; rfl
      · simp [a0, a1]; rfl
    · simp [a1]; intros; rfl
