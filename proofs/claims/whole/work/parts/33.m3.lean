/-! what falls: always one run of pins; the class's two loops and the reference's repeated pass both end at the same run -/
def rn (l r : Nat) : Nat := 2 ^ (r + 1) - 2 ^ l
set_option maxRecDepth 100000 in
theorem rn_bit9 : ∀ r, r < 10 → ∀ l, l < 10 → ∀ i, i < 12 → (rn l r).testBit i = (decide (l ≤ i) && decide (i ≤ r)) := by decide +kernel
set_option maxRecDepth 100000 in
theorem rn_lt9 : ∀ r, r < 9 → ∀ l, l < 10 → rn l r < 512 := by decide +kernel
theorem tb_hi {x i : Nat} (h : x < 512) (hi : 9 ≤ i) : x.testBit i = false := Nat.testBit_lt_two_pow (Nat.lt_of_lt_of_le h (Nat.pow_le_pow_right (by omega) hi : 2 ^ 9 ≤ 2 ^ i))
theorem rn_bit {l r : Nat} (hr : r < 9) (hl : l < 10) (i : Nat) : (rn l r).testBit i = (decide (l ≤ i) && decide (i ≤ r)) := by
  rcases Nat.lt_or_ge i 12 with h | h
  · exact rn_bit9 r (by omega) l hl i h
  · rw [tb_hi (rn_lt9 r hr l hl) (by omega), decide_eq_false (show ¬ i ≤ r by omega), Bool.and_false]
set_option maxRecDepth 100000 in
theorem rn_up : ∀ r, r < 8 → ∀ l, l < 9 → l ≤ r → rn l r ||| 2 ^ (r + 1) = rn l (r + 1) := by decide +kernel
set_option maxRecDepth 100000 in
theorem rn_dn : ∀ r, r < 9 → ∀ l, l < 8 → l + 1 ≤ r → rn (l + 1) r ||| 2 ^ l = rn l r := by decide +kernel
set_option maxRecDepth 100000 in
theorem rn_dn1 : ∀ r, r < 9 → ∀ l, l < 9 → l + 1 = r + 1 → rn l r = 2 ^ l := by decide +kernel
def ln (K : Nat → Nat) (p : Nat) : Bool := decide (K p = 1) || decide (K p = 4)
def tk (P : Nat) (K La : Nat → Nat) (p q : Nat) : Bool := decide (q < P) && (decide (La q = La p) && (!decide (K q = 2) && !decide (K q = 3)))
/-- who falls takes the next one on the right with it (if that stands); on the left -/
def gR (P : Nat) (K La : Nat → Nat) (p : Nat) : Bool := ln K p && tk P K La p (p + 1)
def gL (P : Nat) (K La : Nat → Nat) (p : Nat) : Bool := decide (K p = 4) && (decide (1 ≤ p) && tk P K La p (p - 1))
def cR (P : Nat) (K La : Nat → Nat) (S p : Nat) : Bool := gR P K La p && S.testBit (p + 1)
def cL (P : Nat) (K La : Nat → Nat) (S p : Nat) : Bool := gL P K La p && S.testBit (p - 1)
def goR (c : Nat → Bool) : Nat → Nat → Nat
  | 0, r => r
  | k + 1, r => if c r = true then goR c k (r + 1) else r
def goL (c : Nat → Bool) : Nat → Nat
  | 0 => 0
  | l + 1 => if c (l + 1) = true then goL c l else l + 1
theorem goR_le (c : Nat → Bool) : ∀ k r, r ≤ goR c k r ∧ goR c k r ≤ r + k
  | 0, r => ⟨Nat.le_refl r, Nat.le_refl r⟩
  | k + 1, r => by
    rw [goR]
    have h := goR_le c k (r + 1)
    by_cases hc : c r = true
    · rw [if_pos hc]; omega
    · rw [if_neg hc]; omega
theorem goL_le (c : Nat → Bool) : ∀ l, goL c l ≤ l
  | 0 => Nat.le_refl 0
  | l + 1 => by
    rw [goL]
    have h := goL_le c l
    by_cases hc : c (l + 1) = true
    · rw [if_pos hc]; omega
    · rw [if_neg hc]; omega
/-- what falls, by the first one taken and how many -/
def fall (P : Nat) (K La : Nat → Nat) (S f m : Nat) : Nat := rn (goL (cL P K La S) f) (goR (cR P K La S) (9 - (f + m)) (f + m - 1))
theorem and1 (a b : Int32) : (a &&& b) &&& 1 = (a &&& 1) &&& (b &&& 1) := by
  apply b_ext
  intro i hi
  rw [b_and, b_and, b_and, b_and, b_and]
  cases bt a i <;> cases bt b i <;> cases bt 1 i <;> rfl
theorem two9 {T S p q : Nat} (hT : T < 512) (hS : S < 512) (hp : p < 10) (hq : q < 10) : (((nI T >>> (nI p &&& 31)) &&& (nI S >>> (nI q &&& 31))) &&& 1 = 1) ↔ (T.testBit p && S.testBit q) = true := by
  rw [and1, bit9 T hT p hp, bit9 S hS q hq]
  cases T.testBit p <;> cases S.testBit q <;> decide
theorem fallen_R {S T l N : Nat} (hS : S < 512) (hT : T < 512) (hl : l < 9) (kk : Int32 → Option Int32) :
    ∀ (d n r : Nat), r + d = 8 → l ≤ r → d < n → f_X6_fallen_L55 N (nI S) (nI T) kk n (nI (rn l r)) (nI r) = kk (nI (rn l (goR (fun p => T.testBit p && S.testBit (p + 1)) d r))) := by
  intro d
  induction d with
  | zero =>
    intro n r h1 h2 h3
    obtain ⟨n, rfl⟩ : ∃ k, n = k + 1 := ⟨n - 1, by omega⟩
    rw [f_X6_fallen_L55, nI_1, if_pos (show (9 : Int32) ≤ nI (r + 1) from nI_le (a := 9) (by omega) (by omega)), goR]
  | succ d ih =>
    intro n r h1 h2 h3
    obtain ⟨n, rfl⟩ : ∃ k, n = k + 1 := ⟨n - 1, by omega⟩
    rw [f_X6_fallen_L55, nI_1, if_neg (show ¬ (9 : Int32) ≤ nI (r + 1) from nI_ge (b := 9) (by omega) (by omega)), goR]
    by_cases hc : (T.testBit r && S.testBit (r + 1)) = true
    · rw [if_pos ((two9 hT hS (by omega) (by omega)).mpr hc), if_pos hc, sh1 (r + 1) (by omega), fa_or, rn_up r (by omega) l hl h2]
      exact ih n (r + 1) (by omega) (by omega) (by omega)
    · rw [if_neg (fun h => hc ((two9 hT hS (by omega) (by omega)).mp h)), if_neg hc]
theorem fallen_L {S T r N : Nat} (hS : S < 512) (hT : T < 512) (hr : r < 9) :
    ∀ (l n : Nat), l ≤ r → l < n → f_X6_fallen_L105 N (nI S) (nI T) n (nI (rn l r)) (nI l) = some (nI (rn (goL (fun p => T.testBit p && S.testBit (p - 1)) l) r)) := by
  intro l
  induction l with
  | zero =>
    intro n h2 h3
    obtain ⟨n, rfl⟩ : ∃ k, n = k + 1 := ⟨n - 1, by omega⟩
    rw [f_X6_fallen_L105, if_pos (show nI 0 ≤ (0 : Int32) from nI_le (b := 0) (by omega) (by omega)), goL]
  | succ l ih =>
    intro n h2 h3
    obtain ⟨n, rfl⟩ : ∃ k, n = k + 1 := ⟨n - 1, by omega⟩
    rw [f_X6_fallen_L105, if_neg (show ¬ nI (l + 1) ≤ (0 : Int32) from nI_nle (by omega) (by omega)), nI_pred, pk_m1, goL, Nat.add_sub_cancel]
    by_cases hc : (T.testBit (l + 1) && S.testBit l) = true
    · rw [if_pos ((two9 hT hS (by omega) (by omega)).mpr hc), if_pos hc, sh1 l (by omega), fa_or, rn_dn r hr l (by omega) h2]
      exact ih n (by omega) (by omega)
    · rw [if_neg (fun h => hc ((two9 hT hS (by omega) (by omega)).mp h)), if_neg hc]
