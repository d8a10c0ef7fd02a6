theorem find_L {P b f m : Nat} {K La : Nat → Nat} {size tr tl : Int32} {fi co ta : Nat → Int32} (hP : P ≤ 9) (h : StrR P b K La size tr tl fi co ta) (hf : f < P) (hm1 : 1 ≤ m) (hm : m ≤ 3) :
    ∀ (d n no : Nat), no + d = 3 * P → d < n → f_X6_find_L2 1000 (nI f) (nI m) size fi co n (nI (fb_ct (cand P b K La) no)) = some (if no ≤ 3 * f + (m - 1) ∧ cand P b K La (3 * f + (m - 1)) = true then nI (fb_ct (cand P b K La) (3 * f + (m - 1))) else -1) := by
  obtain ⟨⟨hs, hl⟩, -, -⟩ := h
  have hk := fb_ct_le (cand P b K La) (3 * P)
  intro d
  induction d with
  | zero =>
    intro n no h1 h2
    obtain ⟨n, rfl⟩ : ∃ k, n = k + 1 := ⟨n - 1, by omega⟩
    obtain rfl : no = 3 * P := by omega
    rw [f_X6_find_L2, hs, if_pos (nI_le (Nat.le_refl _) (by omega)), if_neg (by omega)]
  | succ d ih =>
    intro n no h1 h2
    by_cases hc : cand P b K La no = true
    · obtain ⟨n, rfl⟩ : ∃ k, n = k + 1 := ⟨n - 1, by omega⟩
      have go := ih n (no + 1) (by omega) (by omega)
      have hi := cand_ix hc
      obtain ⟨c1, c2, c3⟩ := cand_lt hc
      obtain ⟨l1, l2, -⟩ := hl no c1 hc
      rw [fb_ct_succ, hc, if_pos rfl] at go
      rw [f_X6_find_L2, hs, if_neg (nI_ge hi (by omega)), ← hs]
      by_cases ht : no = 3 * f + (m - 1)
      · have x1 : no / 3 = f := by omega
        have x2 : no % 3 + 1 = m := by omega
        rw [x1] at l1
        rw [x2] at l2
        have hr : (if no ≤ 3 * f + (m - 1) ∧ cand P b K La (3 * f + (m - 1)) = true then nI (fb_ct (cand P b K La) (3 * f + (m - 1))) else -1) = nI (fb_ct (cand P b K La) no) := by rw [← ht, if_pos ⟨Nat.le_refl no, hc⟩]
        rw [hr]
        generalize fb_ct (cand P b K La) no = i at hi l1 l2 ⊢
        simp only [jm_s, gd_i (show i < 27 by omega) (show 27 < 2 ^ 31 by omega), nI_clamp (show i < 2 ^ 31 by omega)]
        rw [l1, l2]
        rw [if_pos rfl, if_pos rfl]
      · have hr : (no ≤ 3 * f + (m - 1) ∧ cand P b K La (3 * f + (m - 1)) = true) ↔ (no + 1 ≤ 3 * f + (m - 1) ∧ cand P b K La (3 * f + (m - 1)) = true) := by
          constructor
          · rintro ⟨g1, g2⟩; exact ⟨by omega, g2⟩
          · rintro ⟨g1, g2⟩; exact ⟨by omega, g2⟩
        simp only [hr]
        generalize fb_ct (cand P b K La) no = i at hi l1 l2 go ⊢
        simp only [jm_s, gd_i (show i < 27 by omega) (show 27 < 2 ^ 31 by omega), nI_clamp (show i < 2 ^ 31 by omega)]
        rw [l1, l2]
        rw [nI_1, go]
        by_cases g1 : nI (no / 3) = nI f
        · have g1' := (nI_eq (by omega) (by omega)).mp g1
          rw [if_pos g1]
          rw [if_neg (fun g2 => ht (by have := (nI_eq (by omega) (by omega)).mp g2; omega))]
        · rw [if_neg g1]
    · have go := ih n (no + 1) (by omega) (by omega)
      rw [Bool.not_eq_true] at hc
      have e : fb_ct (cand P b K La) (no + 1) = fb_ct (cand P b K La) no := by rw [fb_ct_succ, hc]; rfl
      rw [e] at go
      rw [go]
      by_cases ht : no = 3 * f + (m - 1)
      · have h3 : cand P b K La (3 * f + (m - 1)) = false := by rw [← ht]; exact hc
        rw [if_neg (by rw [h3]; simp), if_neg (by rw [h3]; simp)]
      · have hr : (no ≤ 3 * f + (m - 1) ∧ cand P b K La (3 * f + (m - 1)) = true) ↔ (no + 1 ≤ 3 * f + (m - 1) ∧ cand P b K La (3 * f + (m - 1)) = true) := by
          constructor
          · rintro ⟨g1, g2⟩; exact ⟨by omega, g2⟩
          · rintro ⟨g1, g2⟩; exact ⟨by omega, g2⟩
        simp only [hr]
theorem find_ok {P b f m : Nat} {K La : Nat → Nat} {size tr tl : Int32} {fi co ta : Nat → Int32} (hP : P ≤ 9) (h : StrR P b K La size tr tl fi co ta) (hf : f < P) (hm1 : 1 ≤ m) (hm : m ≤ 3) : f_X6_find 1000 size fi co (nI f) (nI m) = some (if cand P b K La (3 * f + (m - 1)) = true then nI (fb_ct (cand P b K La) (3 * f + (m - 1))) else -1) := by
  have := find_L hP h hf hm1 hm (3 * P) 1000 0 (by omega) (by omega)
  unfold f_X6_find
  refine Eq.trans this ?_
  simp only [Nat.zero_le, true_and]
/-- what the class finds of one strike by the green -/
theorem one_ok {P b f m S : Nat} {K La : Nat → Nat} {size tr tl : Int32} {fi co ta : Nat → Int32} (hP : P ≤ 9) (hmo : mono P La) (hb : b ≤ 3) (h : StrR P b K La size tr tl fi co ta) (hS : S < 512) (hf : f < P) (hm1 : 1 ≤ m) (hm : m ≤ 3) :
    ∃ i : Int32, f_X6_find 1000 size fi co (nI f) (nI m) = some i ∧ f_X6_fallen 1000 size tr tl ta fi co i (nI S) = some (nI (if canM S P b K La f m = true then fall P K La S f m else 0)) := by
  have x1 : (3 * f + (m - 1)) / 3 = f := by omega
  have x2 : (3 * f + (m - 1)) % 3 + 1 = m := by omega
  have hv := cand_canM (S := S) (P := P) (b := b) (no := 3 * f + (m - 1)) (K := K) (La := La) hmo
  rw [x1, x2] at hv
  refine ⟨_, find_ok hP h hf hm1 hm, ?_⟩
  by_cases hc : cand P b K La (3 * f + (m - 1)) = true
  · have := fallen_ok hP hb h hS hc
    rw [x1, x2] at this
    rw [if_pos hc, this, hv, hc, Bool.true_and]
  · rw [if_neg hc, if_neg (by rw [hv, Bool.and_eq_true]; exact fun g => hc g.1)]
    unfold f_X6_fallen
    rw [if_pos (by decide)]
    rfl
theorem nI_ge0 {x : Nat} (h : x < 2 ^ 31) : (0 : Int32) ≤ nI x := nI_pos' h
def flA (P b : Nat) (K La : Nat → Nat) (S : Nat) (x1 x2 : Int32) : Int32 := if x1 < 0 ∨ nI P ≤ x1 then -101 else if x2 < 1 ∨ 3 < x2 then -102 else if canM S P b K La x1.toNatClampNeg x2.toNatClampNeg = true then 0 else -103
theorem refusal_ok {P b S : Nat} {K La : Nat → Nat} {kinds laneOf : Nat → Int32} (hG : GWf P K La kinds laneOf) (hb : b ≤ 3) (hS : S < 512) (x1 x2 : Int32) : f_X8_refusalOf 1000 (nI P) (nI S) (nI b) laneOf kinds x1 x2 = some (flA P b K La S x1 x2) := by
  have hP := hG.1
  unfold f_X8_refusalOf flA
  rw [isPin_ok hP, ob1_s]
  by_cases h : x1 < 0 ∨ nI P ≤ x1
  · rw [if_pos h, if_pos h]; rfl
  · rw [if_neg h, if_neg h, if_neg n10, in13, ob1_s]
    by_cases h2 : x2 < 1 ∨ 3 < x2
    · rw [if_pos h2, if_pos h2]; rfl
    · rw [if_neg h2, if_neg h2, if_neg n10]
      obtain ⟨j, hj, rfl⟩ := pin_x hP h
      obtain ⟨m, m1, m2, rfl⟩ := ball_x h2
      rw [canBe_ok hG hS hb (by omega) m1 m2, ob1_s, nI_clamp (by omega), nI_clamp (by omega)]
      by_cases hv : canM S P b K La j m = true
      · rw [if_pos hv, if_pos hv]; rfl
      · rw [if_neg hv, if_neg hv]; rfl
theorem k_falls {P b S : Nat} {K La : Nat → Nat} {kinds laneOf : Nat → Int32} {size tr tl : Int32} {fi co ta : Nat → Int32} (hG : GWf P K La kinds laneOf) (hmo : mono P La) (hb : b ≤ 3) (hS : S < 512) (hR : StrR P b K La size tr tl fi co ta) (x1 x2 : Int32) :
    (flA P b K La S x1 x2 ≠ 0 ∧ flA P b K La S x1 x2 < 0 ∧ f_X7_falls 1000 (nI P) (nI S) size tr tl fi co ta x1 x2 = some (flA P b K La S x1 x2) ∧ f_X8_falls 1000 (nI P) (nI S) (nI b) laneOf kinds x1 x2 = some (flA P b K La S x1 x2)) ∨
    (flA P b K La S x1 x2 = 0 ∧ ∃ f m, x1 = nI f ∧ x2 = nI m ∧ 1 ≤ m ∧ m ≤ 3 ∧ f + m ≤ P ∧ canM S P b K La f m = true ∧ f_X7_falls 1000 (nI P) (nI S) size tr tl fi co ta x1 x2 = some (nI (fall P K La S f m)) ∧ f_X8_falls 1000 (nI P) (nI S) (nI b) laneOf kinds x1 x2 = some (nI (fall P K La S f m))) := by
  have hP := hG.1
  have h8 := refusal_ok hG hb hS x1 x2
  unfold f_X7_falls f_X8_falls
  rw [h8, ob1_s, hasPin_x, ob1_s]
  unfold flA
  by_cases h : x1 < 0 ∨ nI P ≤ x1
  · rw [if_pos h, if_pos h]
    exact Or.inl ⟨by decide, by decide, rfl, rfl⟩
  · rw [if_neg h, if_neg h, if_neg n10, isBall_x, ob1_s]
    by_cases h2 : x2 < 1 ∨ 3 < x2
    · rw [if_pos h2, if_pos h2]
      exact Or.inl ⟨by decide, by decide, rfl, rfl⟩
    · rw [if_neg h2, if_neg h2, if_neg n10]
      obtain ⟨j, hj, rfl⟩ := pin_x hP h
      obtain ⟨m, m1, m2, rfl⟩ := ball_x h2
      rw [nI_clamp (show j < 2 ^ 31 by omega), nI_clamp (show m < 2 ^ 31 by omega)]
      obtain ⟨i, q1, q2⟩ := one_ok hP hmo hb hR hS hj m1 m2
      rw [q1, ob1_s, q2, ob1_s]
      by_cases hv : canM S P b K La j m = true
      · obtain ⟨z1, z2, z3⟩ := canM_info hv m1
        obtain ⟨g1, g2, g3⟩ := fall_info (S := S) (K := K) (La := La) hP m1 z1
        rw [if_pos hv, if_pos hv, if_neg (nI_ne0 (by omega) (by omega)), if_pos rfl, fallsOf_ok hG hS m1 m2 z1, ob1_s]
        exact Or.inr ⟨rfl, j, m, rfl, rfl, m1, m2, z1, hv, rfl, rfl⟩
      · rw [if_neg hv, if_neg hv]
        exact Or.inl ⟨by decide, by decide, rfl, rfl⟩
theorem k_strike {P b S st : Nat} {K La : Nat → Nat} {kinds laneOf : Nat → Int32} {size tr tl : Int32} {fi co ta : Nat → Int32} (hG : GWf P K La kinds laneOf) (hmo : mono P La) (hb : b ≤ 3) (hS : S < 2 ^ P) (hst : st ≤ 999) (hR : StrR P b K La size tr tl fi co ta) (x1 x2 : Int32) :
    ∃ (a0 : Int32) (S' st' : Nat), S' < 2 ^ P ∧ st' ≤ 999 ∧ f_X7_strike 1000 (nI P) (nI S) (nI st) size tr tl fi co ta x1 x2 = some (a0, nI S', nI st') ∧ f_X8_strike 1000 (nI P) (nI S) (nI b) (nI st) laneOf kinds x1 x2 = some (a0, nI S', nI st') := by
  have hP := hG.1
  have h5 := pow9 hP hS
  have h8 := refusal_ok hG hb h5 x1 x2
  unfold f_X7_strike f_X8_strike
  rw [h8, ob1_s]
  rcases k_falls hG hmo hb h5 hR x1 x2 with ⟨q1, q2, q3, -⟩ | ⟨q1, f, m, rfl, rfl, m1, m2, z1, hv, q3, -⟩
  · rw [q3, ob1_s, if_neg q1, if_neg (fun g => by rw [fa_le] at g; rw [fa_lt] at q2; omega)]
    exact ⟨_, S, st, hS, hst, rfl, rfl⟩
  · obtain ⟨g1, g2, g3⟩ := fall_info (S := S) (K := K) (La := La) hP m1 z1
    rw [q3, ob1_s, q1, if_pos rfl, if_pos (nI_ge0 (by omega))]
    by_cases hs : st = 999
    · subst hs
      rw [if_neg (show ¬ nI 999 < (999 : Int32) by decide), if_pos (show nI 999 = (999 : Int32) from rfl)]
      exact ⟨-104, S, 999, hS, by omega, rfl, rfl⟩
    · rw [if_pos (show nI st < (999 : Int32) from nI_lt (b := 999) (by omega) (by omega)), if_neg (show ¬ nI st = (999 : Int32) from fun e => hs ((nI_eq (b := 999) (by omega) (by omega)).mp e)), bitCount_ok _ g1, ob1_s, fallsOf_ok hG h5 m1 m2 z1, ob1_s, ones_ok _ g1, ob1_s, andn, nI_1]
      exact ⟨_, dif S (fall P K La S f m), st + 1, Nat.lt_of_le_of_lt (dif_le _ _) hS, by omega, rfl, rfl⟩
