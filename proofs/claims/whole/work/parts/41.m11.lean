/-! bounds of the tables -/
theorem mexB_le {m k : Nat} (h : m < 2 ^ k) (hk : k ≤ 10) : mexB m ≤ k := by
  rcases Nat.lt_or_ge k (mexB m) with g | g
  · have := fa_first_no (fun v => !m.testBit v) 11 k g
    rw [Nat.testBit_lt_two_pow h] at this
    cases this
  · exact g
theorem mask_lt {P b S n : Nat} {K La : Nat → Nat} (hP : P ≤ 9) (ih : ∀ s, s < S → spN P b K La s ≤ pc9 s) : fo (vS S P b K La) (gN P b K La S) n 0 < 2 ^ pc9 S := by
  refine fo_inv (I := fun _ m => m < 2 ^ pc9 S) (Nat.two_pow_pos _) (fun k x hv hx => ?_) (fun k x _ hx => hx) n
  unfold gN
  have h1 := ih _ (lf_lt hP hv)
  have h2 := lf_pc hP hv
  exact Nat.or_lt_two_pow hx (Nat.pow_lt_pow_right (by omega) (by omega))
theorem spN_le {P b : Nat} {K La : Nat → Nat} (hP : P ≤ 9) : ∀ S, spN P b K La S ≤ pc9 S := by
  intro S
  induction S using Nat.strongRecOn with
  | ind S ih =>
    rw [spN_eq hP]
    exact mexB_le (mask_lt hP ih) (by have := pc9_le S; omega)
theorem mask_lt' {P b S n : Nat} {K La : Nat → Nat} (hP : P ≤ 9) : fo (vS S P b K La) (gN P b K La S) n 0 < 1024 := by
  have h1 := mask_lt (n := n) (S := S) hP (fun s _ => spN_le (b := b) (K := K) (La := La) hP s)
  have h2 : 2 ^ pc9 S ≤ 2 ^ 10 := Nat.pow_le_pow_right (by omega) (by have := pc9_le S; omega)
  omega
theorem foW_le {P b law S n : Nat} {K La : Nat → Nat} : fo (vS S P b K La) (gW P b law K La S) n 0 ≤ 1 := by
  refine fo_inv (I := fun _ m => m ≤ 1) (Nat.zero_le 1) (fun k x hv hx => ?_) (fun k x _ hx => hx) n
  unfold gW
  by_cases h : spW P b law K La (lf P K La S k) = 0
  · rw [if_pos h]; exact Nat.le_refl 1
  · rw [if_neg h]; exact hx
theorem spW_le {P b law : Nat} {K La : Nat → Nat} (hP : P ≤ 9) (hl : law ≤ 1) (S : Nat) : spW P b law K La S ≤ 1 := by
  rw [spW_eq hP]
  by_cases h : fb_ct (vS S P b K La) (3 * P) = 0
  · rw [if_pos h]; exact hl
  · rw [if_neg h]; exact foW_le
theorem foF_le {P b S n : Nat} {K La : Nat → Nat} (hP : P ≤ 9) (ih : ∀ s, s < S → spF P b K La s ≤ pc9 s) : (fb_ct (vS S P b K La) n = 0 ∧ fo (vS S P b K La) (gF P b K La S) n 99 = 99) ∨ (0 < fb_ct (vS S P b K La) n ∧ fo (vS S P b K La) (gF P b K La S) n 99 ≤ pc9 S) := by
  refine fo_inv (I := fun k w => (fb_ct (vS S P b K La) k = 0 ∧ w = 99) ∨ (0 < fb_ct (vS S P b K La) k ∧ w ≤ pc9 S)) (Or.inl ⟨rfl, rfl⟩) (fun k x hv hx => ?_) (fun k x hv hx => ?_) n
  · right
    have h1 := ih _ (lf_lt hP hv)
    have h2 := lf_pc hP hv
    have h3 := pc9_le S
    rw [fb_ct_succ, hv, if_pos rfl]
    refine ⟨by omega, ?_⟩
    unfold gF
    by_cases h : spF P b K La (lf P K La S k) + 1 < x
    · rw [if_pos h]; omega
    · rw [if_neg h]
      rcases hx with hx | hx
      · omega
      · exact hx.2
  · rw [fb_ct_succ, hv]
    simpa using hx
theorem spF_le {P b : Nat} {K La : Nat → Nat} (hP : P ≤ 9) : ∀ S, spF P b K La S ≤ pc9 S := by
  intro S
  induction S using Nat.strongRecOn with
  | ind S ih =>
    rw [spF_eq hP]
    by_cases h : fb_ct (vS S P b K La) (3 * P) = 0
    · rw [if_pos h]; exact Nat.zero_le _
    · rw [if_neg h]
      rcases foF_le (n := 3 * P) hP ih with g | g
      · exact absurd g.1 h
      · exact g.2
theorem foM_le {P b S n : Nat} {K La : Nat → Nat} (hP : P ≤ 9) (ih : ∀ s, s < S → spM P b K La s ≤ pc9 s) : fo (vS S P b K La) (gM P b K La S) n 0 ≤ pc9 S := by
  refine fo_inv (I := fun _ m => m ≤ pc9 S) (Nat.zero_le _) (fun k x hv hx => ?_) (fun k x _ hx => hx) n
  have h1 := ih _ (lf_lt hP hv)
  have h2 := lf_pc hP hv
  unfold gM
  by_cases h : x < spM P b K La (lf P K La S k) + 1
  · rw [if_pos h]; omega
  · rw [if_neg h]; exact hx
theorem spM_le {P b : Nat} {K La : Nat → Nat} (hP : P ≤ 9) : ∀ S, spM P b K La S ≤ pc9 S := by
  intro S
  induction S using Nat.strongRecOn with
  | ind S ih =>
    rw [spM_eq hP]
    exact foM_le hP ih
theorem foL_le {P b law S n : Nat} {K La : Nat → Nat} : fo (vS S P b K La) (gLk P b law K La S) n 0 ≤ fb_ct (vS S P b K La) n * 1000000 := by
  refine fo_inv (I := fun k w => w ≤ fb_ct (vS S P b K La) k * 1000000) (Nat.zero_le _) (fun k x hv hx => ?_) (fun k x hv hx => ?_) n
  · rw [fb_ct_succ, hv, if_pos rfl]
    unfold gLk
    omega
  · rw [fb_ct_succ, hv]
    simpa using hx
theorem spL_le {P b law : Nat} {K La : Nat → Nat} (hP : P ≤ 9) (hl : law ≤ 1) (S : Nat) : spL P b law K La S ≤ 1000000 := by
  rw [spL_eq hP]
  by_cases h : fb_ct (vS S P b K La) (3 * P) = 0
  · rw [if_pos h]; omega
  · rw [if_neg h]
    exact Nat.div_le_of_le_mul (Nat.le_trans foL_le (by rw [Nat.mul_comm]; exact Nat.le_refl _))
