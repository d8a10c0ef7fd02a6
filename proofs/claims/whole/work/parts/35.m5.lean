theorem Bp_0 {P S l r : Nat} {K La : Nat → Nat} : Bp P K La S l r 0 = rn l r := by
  unfold Bp
  rw [decide_eq_false (show ¬ r < 0 by omega), decide_eq_false (show ¬ l < 0 by omega)]
  simp
theorem cR_lt {P S r : Nat} {K La : Nat → Nat} (h : cR P K La S r = true) : r + 1 < P := by
  unfold cR gR tk at h
  simp only [Bool.and_eq_true, decide_eq_true_eq] at h
  exact h.1.2.1
theorem cL_pos {P S l : Nat} {K La : Nat → Nat} (h : cL P K La S l = true) : 1 ≤ l := by
  unfold cL gL at h
  simp only [Bool.and_eq_true, decide_eq_true_eq] at h
  exact h.1.2.1
theorem Bp_P {P S l r : Nat} {K La : Nat → Nat} (hP : P ≤ 9) (hlr : l ≤ r) (hr : r < P) : Bp P K La S l r P = rn (if cL P K La S l = true then l - 1 else l) (if cR P K La S r = true then r + 1 else r) := by
  unfold Bp
  rw [decide_eq_true hr, decide_eq_true (show l < P by omega), Bool.true_and, Bool.true_and]
  have e1 : rn l r ||| (if cR P K La S r = true then 2 ^ (r + 1) else 0) = rn l (if cR P K La S r = true then r + 1 else r) := by
    by_cases h : cR P K La S r = true
    · have := cR_lt h
      rw [if_pos h, if_pos h, rn_up r (by omega) l (by omega) hlr]
    · rw [if_neg h, if_neg h, Nat.or_zero]
  rw [e1]
  have hr2 : (if cR P K La S r = true then r + 1 else r) < 9 ∧ l ≤ (if cR P K La S r = true then r + 1 else r) := by
    by_cases h : cR P K La S r = true
    · have := cR_lt h
      rw [if_pos h]; omega
    · rw [if_neg h]; omega
  generalize (if cR P K La S r = true then r + 1 else r) = r2 at hr2 ⊢
  by_cases h : cL P K La S l = true
  · have := cL_pos h
    obtain ⟨j, rfl⟩ : ∃ j, l = j + 1 := ⟨l - 1, by omega⟩
    rw [if_pos h, if_pos h, Nat.add_sub_cancel, rn_dn r2 hr2.1 j (by omega) hr2.2]
  · rw [if_neg h, if_neg h, Nat.or_zero]
theorem goR_no {c : Nat → Bool} {k r : Nat} (h : ¬ c r = true) : goR c k r = r := by
  cases k with
  | zero => rfl
  | succ k => rw [goR, if_neg h]
theorem goL_no {c : Nat → Bool} {l : Nat} (h : ¬ c l = true) : goL c l = l := by
  cases l with
  | zero => rfl
  | succ l => rw [goL, if_neg h]
theorem withAll_out {P S N : Nat} {K La : Nat → Nat} {kinds laneOf : Nat → Int32} (hG : GWf P K La kinds laneOf) (hS : S < 512) (hN : 20 < N) :
    ∀ (k n l r B : Nat), (8 - r) + l ≤ k → k + 1 < n → l ≤ r → r < P → B < 512 → B ≠ rn l r → f_X8_withAll_L5 N (nI S) (nI P) kinds laneOf n (nI (rn l r)) (nI B) = some (nI (rn (goL (cL P K La S) l) (goR (cR P K La S) (8 - r) r))) := by
  have hP := hG.1
  intro k
  induction k with
  | zero =>
    intro n l r B h1 h2 h3 h4 h5 h6
    obtain ⟨n, rfl⟩ : ∃ j, n = j + 2 := ⟨n - 2, by omega⟩
    have hl : l = 0 := by omega
    have hr8 : r = 8 := by omega
    have c1 : ¬ cR P K La S r = true := fun h => by have := cR_lt h; omega
    have c2 : ¬ cL P K La S l = true := fun h => by have := cL_pos h; omega
    have hlt := rn_lt9 r (by omega) l (by omega)
    rw [f_X8_withAll_L5, if_neg (fun h => h6 ((nI_eq (by omega) (by omega)).mp h).symm)]
    have := withAll_in (N := N) hG hS h3 h4 (fun a13 => f_X8_withAll_L5 N (nI S) (nI P) kinds laneOf (n + 1) a13 (nI (rn l r))) P N 0 (by omega) (by omega)
    rw [Bp_0] at this
    rw [show (0 : Int32) = nI 0 from rfl, this, Bp_P hP h3 h4, if_neg c1, if_neg c2, goR_no c1, goL_no c2, f_X8_withAll_L5, if_pos rfl]
  | succ k ih =>
    intro n l r B h1 h2 h3 h4 h5 h6
    obtain ⟨n, rfl⟩ : ∃ j, n = j + 2 := ⟨n - 2, by omega⟩
    have hlt := rn_lt9 r (by omega) l (by omega)
    rw [f_X8_withAll_L5, if_neg (fun h => h6 ((nI_eq (by omega) (by omega)).mp h).symm)]
    have := withAll_in (N := N) hG hS h3 h4 (fun a13 => f_X8_withAll_L5 N (nI S) (nI P) kinds laneOf (n + 1) a13 (nI (rn l r))) P N 0 (by omega) (by omega)
    rw [Bp_0] at this
    rw [show (0 : Int32) = nI 0 from rfl, this, Bp_P hP h3 h4]
    by_cases c1 : cR P K La S r = true
    · have q1 := cR_lt c1
      have e1 : goR (cR P K La S) (8 - r) r = goR (cR P K La S) (8 - (r + 1)) (r + 1) := by
        rw [show 8 - r = (8 - (r + 1)) + 1 by omega, goR, if_pos c1]
      by_cases c2 : cL P K La S l = true
      · have q2 := cL_pos c2
        obtain ⟨j, rfl⟩ : ∃ j, l = j + 1 := ⟨l - 1, by omega⟩
        rw [if_pos c1, if_pos c2, e1, goL, if_pos c2, Nat.add_sub_cancel]
        refine ih (n + 1) j (r + 1) (rn (j + 1) r) (by omega) (by omega) (by omega) (by omega) hlt (fun h => ?_)
        have b1 := rn_bit (l := j + 1) (r := r) (by omega) (by omega) (r + 1)
        rw [h, rn_bit (by omega) (by omega), decide_eq_true (show j ≤ r + 1 by omega), decide_eq_true (Nat.le_refl (r + 1)), decide_eq_false (show ¬ r + 1 ≤ r by omega), Bool.and_false] at b1
        cases b1
      · rw [if_pos c1, if_neg c2, e1, goL_no c2]
        have g2 : goL (cL P K La S) l = l := goL_no c2
        have := ih (n + 1) l (r + 1) (rn l r) (by omega) (by omega) (by omega) (by omega) hlt (fun h => by
          have b1 := rn_bit (l := l) (r := r) (by omega) (by omega) (r + 1)
          rw [h, rn_bit (by omega) (by omega), decide_eq_true (show l ≤ r + 1 by omega), decide_eq_true (Nat.le_refl (r + 1)), decide_eq_false (show ¬ r + 1 ≤ r by omega), Bool.and_false] at b1
          cases b1)
        rw [g2] at this
        exact this
    · by_cases c2 : cL P K La S l = true
      · have q2 := cL_pos c2
        obtain ⟨j, rfl⟩ : ∃ j, l = j + 1 := ⟨l - 1, by omega⟩
        rw [if_neg c1, if_pos c2, goL, if_pos c2, Nat.add_sub_cancel]
        refine ih (n + 1) j r (rn (j + 1) r) (by omega) (by omega) (by omega) (by omega) hlt (fun h => ?_)
        have b1 := rn_bit (l := j + 1) (r := r) (by omega) (by omega) j
        rw [h, rn_bit (by omega) (by omega), decide_eq_true (Nat.le_refl j), decide_eq_true (show j ≤ r by omega), decide_eq_false (show ¬ j + 1 ≤ j by omega), Bool.false_and] at b1
        cases b1
      · rw [if_neg c1, if_neg c2, goR_no c1, goL_no c2, f_X8_withAll_L5, if_pos rfl]
set_option maxRecDepth 100000 in
theorem run0 : ∀ f, f < 9 → ∀ m, m < 4 → 1 ≤ m → ((((1 : Int32) <<< (nI m &&& 31)) - (1 : Int32)) <<< (nI f &&& 31)) = nI (rn f (f + m - 1)) := by decide +kernel
theorem fallsOf_ok {P S f m : Nat} {K La : Nat → Nat} {kinds laneOf : Nat → Int32} (hG : GWf P K La kinds laneOf) (hS : S < 512) (hm1 : 1 ≤ m) (hm : m ≤ 3) (hfm : f + m ≤ P) : f_X8_fallsOf 1000 (nI P) kinds laneOf (nI S) (nI f) (nI m) = some (nI (fall P K La S f m)) := by
  have hP := hG.1
  unfold f_X8_fallsOf f_X8_withAll fall
  have hz : rn f (f + m - 1) ≠ 0 := fun h => by
    have b1 := rn_bit (l := f) (r := f + m - 1) (by omega) (by omega) f
    rw [h, Nat.zero_testBit, decide_eq_true (Nat.le_refl f), decide_eq_true (show f ≤ f + m - 1 by omega)] at b1
    cases b1
  rw [run0 f (by omega) m (by omega) hm1, show (0 : Int32) = nI 0 from rfl, withAll_out (N := 1000) hG hS (by omega) 18 1000 f (f + m - 1) 0 (by omega) (by omega) (by omega) (by omega) (by omega) (fun h => hz h.symm), ob1_s, show 8 - (f + m - 1) = 9 - (f + m) by omega]
/-- a set less another one -/
def dif (S F : Nat) : Nat := S ^^^ (S &&& F)
theorem dif_bit (S F i : Nat) : (dif S F).testBit i = (S.testBit i && !F.testBit i) := by
  unfold dif
  rw [Nat.testBit_xor, Nat.testBit_and]
  cases S.testBit i <;> cases F.testBit i <;> rfl
theorem lt512 {x : Nat} (h : ∀ i, 9 ≤ i → x.testBit i = false) : x < 512 := Nat.lt_pow_two_of_testBit (n := 9) x h
theorem dif_lt {S F : Nat} (h : S < 512) : dif S F < 512 := lt512 fun i hi => by rw [dif_bit, tb_hi h hi, Bool.false_and]
theorem bt_nI {n i : Nat} (hi : i < 32) : bt (nI n) i = n.testBit i := by
  unfold bt nI
  show (BitVec.ofNat 32 n).getLsbD i = _
  rw [BitVec.getLsbD_ofNat, decide_eq_true hi, Bool.true_and]
theorem andn (S F : Nat) : nI S &&& (nI F ^^^ (-1 : Int32)) = nI (dif S F) := by
  apply b_ext
  intro i hi
  rw [b_and, b_xor, b_m1 i hi, bt_nI hi, bt_nI hi, bt_nI hi, dif_bit]
  cases S.testBit i <;> cases F.testBit i <;> rfl
theorem leftBy_ok {P S b no : Nat} {K La : Nat → Nat} {kinds laneOf : Nat → Int32} (hG : GWf P K La kinds laneOf) (hS : S < 512) (hb : b ≤ 3) (hno : no < 30) : f_X8_leftBy 1000 (nI P) (nI b) laneOf kinds (nI S) (nI no) = some (if canM S P b K La (no / 3) (no % 3 + 1) = true then nI (dif S (fall P K La S (no / 3) (no % 3 + 1))) else -1) := by
  unfold f_X8_leftBy
  have e1 : nI no / (3 : Int32) = nI (no / 3) := pk_div (d := 3) (by omega) (by omega) (by omega)
  have e2 : nI no - nI no / (3 : Int32) * (3 : Int32) = nI (no % 3) := pk_rem (d := 3) (by omega) (by omega) (by omega)
  rw [e2, e1, nI_1, canBe_ok hG hS hb (by omega) (by omega) (by omega), ob1_s]
  by_cases h : canM S P b K La (no / 3) (no % 3 + 1) = true
  · rw [if_pos h, if_neg (by decide), if_pos h]
    have h2 := h
    unfold canM at h2
    simp only [Bool.and_eq_true, decide_eq_true_eq] at h2
    rw [fallsOf_ok hG hS (by omega) (by omega) h2.2.1, ob1_s, andn]
  · rw [if_neg h, if_pos (show nI 0 = (0 : Int32) from rfl), if_neg h]
