/-! the list's strikes by a set that stands: find, fallen, howMany; the same as the reference's canBe, fallsOf, leftBy -/
def mono (P : Nat) (La : Nat → Nat) : Prop := ∀ i j, i ≤ j → j < P → La i ≤ La j
theorem canM_eq {S P b f m : Nat} {K La : Nat → Nat} (hmo : mono P La) (hm1 : 1 ≤ m) : canM S P b K La f m = (decide (m ≤ b) && (canT P K La f m && allI (fun p => S.testBit p) f m)) := by
  rw [Bool.eq_iff_iff]
  unfold canM canT
  simp only [Bool.and_eq_true, decide_eq_true_eq, allI_iff]
  constructor
  · rintro ⟨h1, h2, h3⟩
    refine ⟨h1, ⟨h2, ?_, fun p a b => ?_⟩, fun p a b => ?_⟩
    · have := h3 (f + m - 1) (by omega) (by omega)
      unfold cq at this
      simp only [Bool.and_eq_true, decide_eq_true_eq] at this
      exact this.2.1.symm
    · have := h3 p a b
      unfold cq at this
      simp only [Bool.and_eq_true] at this
      exact this.2.2
    · have := h3 p a b
      unfold cq at this
      simp only [Bool.and_eq_true] at this
      exact this.1
  · rintro ⟨h1, ⟨h2, h3, h4⟩, h5⟩
    refine ⟨h1, h2, fun p a b => ?_⟩
    unfold cq
    simp only [Bool.and_eq_true, decide_eq_true_eq]
    refine ⟨h5 p a b, ?_, h4 p a b⟩
    have x1 := hmo f p a (by omega)
    have x2 := hmo p (f + m - 1) (by omega) (by omega)
    omega
theorem cand_canM {S P b no : Nat} {K La : Nat → Nat} (hmo : mono P La) : canM S P b K La (no / 3) (no % 3 + 1) = (cand P b K La no && allI (fun p => S.testBit p) (no / 3) (no % 3 + 1)) := by
  rw [canM_eq hmo (by omega)]
  unfold cand
  rw [Bool.and_assoc]
theorem and_run {S l r : Nat} (hr : r < 9) (hl : l < 10) (hlr : l ≤ r) : (nI S &&& nI (rn l r) = nI (rn l r)) ↔ allI (fun p => S.testBit p) l (r + 1 - l) = true := by
  have hlt := rn_lt9 r hr l hl
  rw [fa_and, nI_eq (Nat.lt_of_le_of_lt Nat.and_le_right (by omega)) (by omega), allI_iff]
  constructor
  · intro h p h1 h2
    have := congrArg (fun x => x.testBit p) h
    simp only [Nat.testBit_and, rn_bit hr hl, decide_eq_true h1, decide_eq_true (show p ≤ r by omega), Bool.and_true] at this
    exact this
  · intro h
    apply Nat.eq_of_testBit_eq
    intro i
    rw [Nat.testBit_and, rn_bit hr hl]
    by_cases h1 : l ≤ i ∧ i ≤ r
    · rw [h i h1.1 (by omega)]; rfl
    · have : (decide (l ≤ i) && decide (i ≤ r)) = false := by
        rw [Bool.and_eq_false_iff, decide_eq_false_iff_not, decide_eq_false_iff_not]; omega
      rw [this, Bool.and_false]
theorem cand_lt {P b no : Nat} {K La : Nat → Nat} (h : cand P b K La no = true) : no < 3 * P ∧ no / 3 + (no % 3 + 1) ≤ P ∧ no % 3 + 1 ≤ b := by
  unfold cand canT at h
  simp only [Bool.and_eq_true, decide_eq_true_eq] at h
  omega
theorem cand_ix {P b no : Nat} {K La : Nat → Nat} (h : cand P b K La no = true) : fb_ct (cand P b K La) no < fb_ct (cand P b K La) (3 * P) := by
  have h1 := (cand_lt h).1
  have e : fb_ct (cand P b K La) (no + 1) = fb_ct (cand P b K La) no + 1 := by rw [fb_ct_succ, h]; rfl
  have := fb_ct_mono (cand P b K La) (show no + 1 ≤ 3 * P by omega)
  omega
theorem goR_cong {c d : Nat → Bool} : ∀ {k r : Nat}, (∀ p, r ≤ p → p < r + k → c p = d p) → goR c k r = goR d k r
  | 0, _, _ => rfl
  | k + 1, r, h => by
    rw [goR, goR, h r (Nat.le_refl r) (by omega), goR_cong (k := k) (r := r + 1) (fun p h1 h2 => h p (by omega) (by omega))]
theorem goL_cong {c d : Nat → Bool} : ∀ {l : Nat}, (∀ p, p ≤ l → c p = d p) → goL c l = goL d l
  | 0, _ => rfl
  | l + 1, h => by
    rw [goL, goL, h (l + 1) (Nat.le_refl _), goL_cong (l := l) (fun p h1 => h p (by omega))]
theorem fallen_ok {P b no S : Nat} {K La : Nat → Nat} {size tr tl : Int32} {fi co ta : Nat → Int32} (hP : P ≤ 9) (hb : b ≤ 3) (h : StrR P b K La size tr tl fi co ta) (hS : S < 512) (hc : cand P b K La no = true) :
    f_X6_fallen 1000 size tr tl ta fi co (nI (fb_ct (cand P b K La) no)) (nI S) = some (nI (if allI (fun p => S.testBit p) (no / 3) (no % 3 + 1) = true then fall P K La S (no / 3) (no % 3 + 1) else 0)) := by
  obtain ⟨⟨hs, hl⟩, rfl, rfl⟩ := h
  have hk := fb_ct_le (cand P b K La) (3 * P)
  have hi := cand_ix hc
  obtain ⟨c1, c2, c3⟩ := cand_lt hc
  obtain ⟨l1, l2, l3⟩ := hl no c1 hc
  subst hs
  generalize fb_ct (cand P b K La) no = i at hi l1 l2 l3 ⊢
  generalize fb_ct (cand P b K La) (3 * P) = sz at hk hi ⊢
  unfold f_X6_fallen
  rw [if_neg (nI_pos (by omega)), if_neg (nI_ge hi (by omega)), gd_i (show i < 27 by omega) (by omega), gd_i (show i < 27 by omega) (by omega), nI_clamp (show i < 2 ^ 31 by omega), l3, gd_i (show i < 27 by omega) (by omega), gd_i (show i < 27 by omega) (by omega), gd_i (show i < 27 by omega) (by omega)]
  have run := and_run (S := S) (l := no / 3) (r := no / 3 + no % 3) (by omega) (by omega) (by omega)
  rw [show no / 3 + no % 3 + 1 - no / 3 = no % 3 + 1 by omega] at run
  by_cases ha : allI (fun p => S.testBit p) (no / 3) (no % 3 + 1) = true
  · rw [if_pos (run.mpr ha), if_pos ha, l1, l2]
    have er : nI (no / 3) + nI (no % 3 + 1) - 1 = nI (no / 3 + no % 3) := by rw [nI_add, show no / 3 + (no % 3 + 1) = no / 3 + no % 3 + 1 by omega, nI_pred]
    have TR := trB_lt (gR P K La) hP
    have TL := trB_lt (gL P K La) hP
    rw [er, fallen_R (N := 1000) hS TR (show no / 3 < 9 by omega) _ (8 - (no / 3 + no % 3)) 1000 (no / 3 + no % 3) (by omega) (by omega) (by omega), gd_i (show i < 27 by omega) (by omega)]
    have gb := goR_le (fun p => (trB (gR P K La) P).testBit p && S.testBit (p + 1)) (8 - (no / 3 + no % 3)) (no / 3 + no % 3)
    rw [fallen_L (N := 1000) hS TL (by omega) (no / 3) 1000 (by omega) (by omega)]
    unfold fall
    have e1 : goR (fun p => (trB (gR P K La) P).testBit p && S.testBit (p + 1)) (8 - (no / 3 + no % 3)) (no / 3 + no % 3) = goR (cR P K La S) (8 - (no / 3 + no % 3)) (no / 3 + no % 3) := by
      refine goR_cong (fun p h1 h2 => ?_)
      unfold cR
      rw [trB_bit]
      by_cases hp : p < P
      · rw [decide_eq_true hp, Bool.true_and]
      · have : gR P K La p = false := by unfold gR tk; rw [decide_eq_false (show ¬ p + 1 < P by omega)]; simp
        rw [this, Bool.and_false]
    have e2 : goL (fun p => (trB (gL P K La) P).testBit p && S.testBit (p - 1)) (no / 3) = goL (cL P K La S) (no / 3) := by
      refine goL_cong (fun p h1 => ?_)
      unfold cL
      rw [trB_bit, decide_eq_true (show p < P by omega), Bool.true_and]
    rw [e1, e2, show 9 - (no / 3 + (no % 3 + 1)) = 8 - (no / 3 + no % 3) by omega, show no / 3 + (no % 3 + 1) - 1 = no / 3 + no % 3 by omega]
  · rw [if_neg (fun h => ha (run.mp h)), if_neg ha]; rfl
