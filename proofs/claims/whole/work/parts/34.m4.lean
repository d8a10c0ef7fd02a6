theorem tb_if (c : Bool) (x i : Nat) : (if c = true then x else 0).testBit i = (c && x.testBit i) := by
  cases c <;> simp
theorem isLeaning_ok {P p N : Nat} {K La : Nat → Nat} {kinds laneOf : Nat → Int32} (hG : GWf P K La kinds laneOf) (hp : p < P) : f_X8_isLeaning N kinds (nI p) = some (nI (if ln K p = true then 1 else 0)) := by
  obtain ⟨hP, hg⟩ := hG
  obtain ⟨k1, k2, -, -⟩ := hg p hp
  unfold f_X8_isLeaning ln
  rw [gd_i (show p < 9 by omega) (by omega), gd_i (show p < 9 by omega) (by omega), nI_clamp (show p < 2 ^ 31 by omega), k1]
  have e1 : (nI (K p) = 1) ↔ K p = 1 := nI_eq (b := 1) (by omega) (by omega)
  have e4 : (nI (K p) = 4) ↔ K p = 4 := nI_eq (b := 4) (by omega) (by omega)
  simp only [e1, e4]
  by_cases a1 : K p = 1
  · simp [a1]; rfl
  · by_cases a4 : K p = 4
    · simp [a4]; rfl
    · simp [a1, a4]; rfl
theorem isTaken_ok {P p q N : Nat} {K La : Nat → Nat} {kinds laneOf : Nat → Int32} (hG : GWf P K La kinds laneOf) (hp : p < P) (hq : q < 11) : f_X8_isTaken N (nI P) laneOf kinds (nI p) (nI q) = some (nI (if tk P K La p q = true then 1 else 0)) := by
  obtain ⟨hP, hg⟩ := hG
  unfold f_X8_isTaken tk
  rw [in_pin N (nI q) hP]
  by_cases h : q < P
  · obtain ⟨k1, k2, k3, k4⟩ := hg p hp
    obtain ⟨q1, q2, q3, q4⟩ := hg q h
    rw [if_neg (by rintro (a | a); exact nI_pos (by omega) a; exact nI_ge h (by omega) a), ob1_s, if_neg (by decide), gd_i (show q < 9 by omega) (by omega), gd_i (show p < 9 by omega) (by omega), gd_i (show q < 9 by omega) (by omega), gd_i (show q < 9 by omega) (by omega), nI_clamp (show p < 2 ^ 31 by omega), nI_clamp (show q < 2 ^ 31 by omega), q1, q3, k3, decide_eq_true h]
    have e1 : (nI (La q) = nI (La p)) ↔ La q = La p := nI_eq (by omega) (by omega)
    have e2 : (nI (K q) = 2) ↔ K q = 2 := nI_eq (b := 2) (by omega) (by omega)
    have e3 : (nI (K q) = 3) ↔ K q = 3 := nI_eq (b := 3) (by omega) (by omega)
    simp only [e1, e2, e3]
    by_cases a1 : La q = La p
    · by_cases a2 : K q = 2
      · simp [a1, a2]; rfl
      · by_cases a3 : K q = 3
        · simp [a1, a3]; rfl
        · simp [a1, a2, a3]; rfl
    · simp [a1]; rfl
  · rw [if_pos (Or.inr (nI_le (by omega) (by omega))), ob1_s, if_pos rfl, decide_eq_false h]
    rfl
theorem isTaken_m1 {P p N : Nat} {K La : Nat → Nat} {kinds laneOf : Nat → Int32} (hG : GWf P K La kinds laneOf) : f_X8_isTaken N (nI P) laneOf kinds (nI p) (nI 0 - 1) = some 0 := by
  unfold f_X8_isTaken
  rw [in_pin N (nI 0 - 1) hG.1, if_pos (Or.inl (by decide)), ob1_s, if_pos rfl]
set_option maxRecDepth 100000 in
theorem one9 : ∀ S, S < 512 → ∀ p, p < 10 → ((1 : Int32) <<< (nI p &&& 31)) &&& nI S = nI (if S.testBit p then 2 ^ p else 0) := by decide +kernel
/-- the set behind p pins of one pass over the run l .. r -/
def Bp (P : Nat) (K La : Nat → Nat) (S l r p : Nat) : Nat := (rn l r ||| (if (decide (r < p) && cR P K La S r) = true then 2 ^ (r + 1) else 0)) ||| (if (decide (l < p) && cL P K La S l) = true then 2 ^ (l - 1) else 0)
theorem Bp_out {P S l r p : Nat} {K La : Nat → Nat} (hlr : l ≤ r) (h : p < l ∨ r < p) : Bp P K La S l r p = Bp P K La S l r (p + 1) := by
  unfold Bp
  rcases h with h | h
  · rw [decide_eq_false (show ¬ r < p by omega), decide_eq_false (show ¬ r < p + 1 by omega), decide_eq_false (show ¬ l < p by omega), decide_eq_false (show ¬ l < p + 1 by omega)]
  · rw [decide_eq_true (show r < p by omega), decide_eq_true (show r < p + 1 by omega), decide_eq_true (show l < p by omega), decide_eq_true (show l < p + 1 by omega)]
theorem Bp_in {P S l r p : Nat} {K La : Nat → Nat} (hr : r < 9) (h1 : l ≤ p) (h2 : p ≤ r) :
    (Bp P K La S l r p ||| (if gR P K La p = true then (if S.testBit (p + 1) = true then 2 ^ (p + 1) else 0) else 0)) ||| (if gL P K La p = true then (if S.testBit (p - 1) = true then 2 ^ (p - 1) else 0) else 0) = Bp P K La S l r (p + 1) := by
  apply Nat.eq_of_testBit_eq
  intro i
  unfold Bp
  simp only [Nat.testBit_or, tb_if, rn_bit hr (show l < 10 by omega), Nat.testBit_two_pow]
  rw [Bool.eq_iff_iff]
  simp only [Bool.or_eq_true, Bool.and_eq_true, decide_eq_true_eq]
  constructor
  · rintro ((((a | a) | a) | a) | a)
    · exact Or.inl (Or.inl a)
    · exact Or.inl (Or.inr ⟨⟨by omega, a.1.2⟩, a.2⟩)
    · exact Or.inr ⟨⟨by omega, a.1.2⟩, a.2⟩
    · obtain ⟨a1, a2, a3⟩ := a
      rcases Nat.lt_or_ge p r with h | h
      · exact Or.inl (Or.inl ⟨by omega, by omega⟩)
      · obtain rfl : p = r := by omega
        refine Or.inl (Or.inr ⟨⟨by omega, ?_⟩, a3⟩)
        unfold cR
        rw [a1, a2]
        rfl
    · obtain ⟨a1, a2, a3⟩ := a
      have hp1 : 1 ≤ p := by
        unfold gL at a1
        simp only [Bool.and_eq_true, decide_eq_true_eq] at a1
        exact a1.2.1
      rcases Nat.lt_or_ge l p with h | h
      · exact Or.inl (Or.inl ⟨by omega, by omega⟩)
      · obtain rfl : l = p := by omega
        refine Or.inr ⟨⟨by omega, ?_⟩, a3⟩
        unfold cL
        rw [a1, a2]
        rfl
  · rintro ((a | a) | a)
    · exact Or.inl (Or.inl (Or.inl (Or.inl a)))
    · obtain ⟨⟨a1, a2⟩, a3⟩ := a
      rcases Nat.lt_or_ge r p with h | h
      · exact Or.inl (Or.inl (Or.inl (Or.inr ⟨⟨h, a2⟩, a3⟩)))
      · obtain rfl : p = r := by omega
        unfold cR at a2
        simp only [Bool.and_eq_true] at a2
        exact Or.inl (Or.inr ⟨a2.1, a2.2, a3⟩)
    · obtain ⟨⟨a1, a2⟩, a3⟩ := a
      rcases Nat.lt_or_ge l p with h | h
      · exact Or.inl (Or.inl (Or.inr ⟨⟨h, a2⟩, a3⟩))
      · obtain rfl : l = p := by omega
        unfold cL at a2
        simp only [Bool.and_eq_true] at a2
        exact Or.inr ⟨a2.1, a2.2, a3⟩
theorem b01 (c : Bool) : (nI (if c = true then 1 else 0) = 0) ↔ ¬ c = true := by cases c <;> decide
theorem withAll_in {P S l r N : Nat} {K La : Nat → Nat} {kinds laneOf : Nat → Int32} (hG : GWf P K La kinds laneOf) (hS : S < 512) (hlr : l ≤ r) (hr : r < P) (kk : Int32 → Option Int32) :
    ∀ (d n p : Nat), p + d = P → d < n → f_X8_withAll_L17 N (nI S) (nI (rn l r)) (nI P) kinds laneOf kk n (nI (Bp P K La S l r p)) (nI p) = kk (nI (Bp P K La S l r P)) := by
  have hP := hG.1
  intro d
  induction d with
  | zero =>
    intro n p h1 h2
    obtain ⟨n, rfl⟩ : ∃ k, n = k + 1 := ⟨n - 1, by omega⟩
    obtain rfl : p = P := by omega
    rw [f_X8_withAll_L17, if_pos (nI_le (Nat.le_refl p) (by omega))]
  | succ d ih =>
    intro n p h1 h2
    obtain ⟨n, rfl⟩ : ∃ k, n = k + 1 := ⟨n - 1, by omega⟩
    have go := ih n (p + 1) (by omega) (by omega)
    rw [f_X8_withAll_L17, if_neg (nI_ge (by omega) (by omega))]
    simp only [jm_s]
    rw [bit9 (rn l r) (rn_lt9 r (by omega) l (by omega)) p (by omega), nI_1, rn_bit (by omega) (by omega)]
    by_cases hin : l ≤ p ∧ p ≤ r
    · obtain ⟨i1, i2⟩ := hin
      rw [decide_eq_true i1, decide_eq_true i2, if_pos (by rfl), isLeaning_ok hG (by omega), ob1_s, gd_i (show p < 9 by omega) (by omega), nI_clamp (show p < 2 ^ 31 by omega), isTaken_ok hG (by omega) (by omega), ob1_s, one9 S hS (p + 1) (by omega)]
      have k1 := (hG.2 p (by omega)).1
      have k2 := (hG.2 p (by omega)).2.1
      have e4 : (nI (K p) = 4) ↔ K p = 4 := nI_eq (b := 4) (by omega) (by omega)
      rw [k1]
      have left : ∀ X : Nat, (if nI (K p) = 4 then ob1 (f_X8_isTaken N (nI P) laneOf kinds (nI p) (nI p - 1)) (fun a10 => if a10 = 0 then f_X8_withAll_L17 N (nI S) (nI (rn l r)) (nI P) kinds laneOf kk n ((nI X) ||| 0) (nI (p + 1)) else f_X8_withAll_L17 N (nI S) (nI (rn l r)) (nI P) kinds laneOf kk n ((nI X) ||| (((1 : Int32) <<< ((nI p - 1) &&& 31)) &&& nI S)) (nI (p + 1))) else f_X8_withAll_L17 N (nI S) (nI (rn l r)) (nI P) kinds laneOf kk n ((nI X) ||| 0) (nI (p + 1))) = f_X8_withAll_L17 N (nI S) (nI (rn l r)) (nI P) kinds laneOf kk n (nI (X ||| (if gL P K La p = true then (if S.testBit (p - 1) = true then 2 ^ (p - 1) else 0) else 0))) (nI (p + 1)) := by
        intro X
        have z : (nI X ||| 0) = nI (X ||| 0) := fa_or X 0
        rw [z, Nat.or_zero]
        unfold gL
        by_cases a4 : K p = 4
        · rw [if_pos (e4.mpr a4), decide_eq_true a4, Bool.true_and]
          rcases Nat.eq_zero_or_pos p with hp | hp
          · subst hp
            rw [isTaken_m1 hG, ob1_s, if_pos rfl, decide_eq_false (by omega), Bool.false_and, if_neg (by decide), Nat.or_zero]
          · obtain ⟨j, rfl⟩ : ∃ j, p = j + 1 := ⟨p - 1, by omega⟩
            rw [nI_pred, isTaken_ok hG (by omega) (by omega), ob1_s, decide_eq_true (show 1 ≤ j + 1 by omega), Bool.true_and, one9 S hS j (by omega), fa_or, Nat.add_sub_cancel]
            by_cases ht : tk P K La (j + 1) j = true
            · rw [if_neg (fun h => (b01 _).mp h ht), if_pos ht]
            · rw [if_pos ((b01 _).mpr ht), if_neg ht, Nat.or_zero]
        · rw [if_neg (fun h => a4 (e4.mp h)), decide_eq_false a4, Bool.false_and, if_neg (by decide), Nat.or_zero]
      have stepB := Bp_in (P := P) (K := K) (La := La) (S := S) (l := l) (r := r) (p := p) (by omega) i1 i2
      by_cases hl : ln K p = true
      · rw [if_neg (fun h => (b01 _).mp h hl)]
        by_cases ht : tk P K La p (p + 1) = true
        · rw [if_neg (fun h => (b01 _).mp h ht), fa_or, left, ← go, ← stepB]
          have hg : gR P K La p = true := by unfold gR; rw [hl, ht]; rfl
          rw [if_pos hg, gd_i (show p < 9 by omega) (by omega)]
        · rw [if_pos ((b01 _).mpr ht)]
          have z : (nI (Bp P K La S l r p) ||| 0) = nI (Bp P K La S l r p ||| 0) := fa_or _ 0
          rw [z, left, ← go, ← stepB]
          have hg : ¬ gR P K La p = true := by unfold gR; rw [Bool.and_eq_true]; exact fun h => ht h.2
          rw [if_neg hg]
      · rw [if_pos ((b01 _).mpr hl)]
        have z : (nI (Bp P K La S l r p) ||| 0) = nI (Bp P K La S l r p ||| 0) := fa_or _ 0
        rw [z, left, ← go, ← stepB]
        have hg : ¬ gR P K La p = true := by unfold gR; rw [Bool.and_eq_true]; exact fun h => hl h.1
        rw [if_neg hg]
    · have hb : (decide (l ≤ p) && decide (p ≤ r)) = false := by
        rw [Bool.and_eq_false_iff, decide_eq_false_iff_not, decide_eq_false_iff_not]
        omega
      rw [hb, if_neg (by decide), Bp_out hlr (by omega)]
      exact go
