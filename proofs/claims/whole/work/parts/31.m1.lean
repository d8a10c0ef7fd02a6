/-! small facts: guards, bits of sets below 512, counts -/
theorem gd_t {β : Type} {b : Bool} {x : Option β} (h : b = true) : gd b x = x := by unfold gd; rw [if_pos h]
theorem inb_nI {i n : Nat} (h : i < n) (hn : n < 2 ^ 31) : inb (nI i) n = true := by
  unfold inb
  rw [nI_clamp (by omega), decide_eq_true h, decide_eq_false (nI_pos (by omega))]
  rfl
theorem gd_i {β : Type} {i n : Nat} {x : Option β} (h : i < n) (hn : n < 2 ^ 31) : gd (inb (nI i) n) x = x := gd_t (inb_nI h hn)
theorem l0 : (0 : Int32) = nI 0 := rfl
theorem l1 : (1 : Int32) = nI 1 := rfl
theorem jm_s {κ β : Type} (k : κ) (b : κ → Option β) : jm k b = b k := rfl
def pc9 (S : Nat) : Nat := fb_ct (fun i => S.testBit i) 9
set_option maxRecDepth 100000 in
theorem bit9 : ∀ S, S < 512 → ∀ p, p < 10 → (nI S >>> (nI p &&& 31)) &&& 1 = nI (if S.testBit p then 1 else 0) := by decide +kernel
set_option maxRecDepth 100000 in
theorem sh1 : ∀ p, p < 11 → (1 : Int32) <<< (nI p &&& 31) = nI (2 ^ p) := by decide +kernel
set_option maxRecDepth 100000 in
theorem ones_ok : ∀ S, S < 512 → f_X8_ones 1000 (nI S) = some (nI (pc9 S)) := by decide +kernel
set_option maxRecDepth 100000 in
theorem bitCount_ok : ∀ S, S < 512 → f_J6_bitCount_0f7a4 1000 (nI S) = some (nI (pc9 S)) := by decide +kernel
def mexB (m : Nat) : Nat := fa_first (fun v => !m.testBit v) 11
set_option maxRecDepth 100000 in
theorem least7_ok : ∀ m, m < 1024 → f_X7_leastNotIn 1000 (lN m) = some (nI (mexB m)) := by decide +kernel
set_option maxRecDepth 100000 in
theorem least8_ok : ∀ m, m < 1024 → f_X8_leastNot 1000 (lN m) = some (nI (mexB m)) := by decide +kernel
theorem in_ok (N : Nat) (v lo hi : Int64) : f_X8_in N v lo hi = some (if lo ≤ v ∧ v ≤ hi then 1 else 0) := by
  unfold f_X8_in
  by_cases h1 : v < lo
  · rw [if_pos ((lg_cmp_lt v lo).mpr h1), if_neg]
    rw [fa_lt64] at h1
    rw [fa_le64, fa_le64]
    omega
  · rw [if_neg (fun h => h1 ((lg_cmp_lt v lo).mp h))]
    rw [fa_lt64] at h1
    by_cases h2 : hi < v
    · rw [if_pos ((lg_cmp_gt v hi).mpr h2), if_neg]
      rw [fa_lt64] at h2
      rw [fa_le64, fa_le64]
      omega
    · rw [if_neg (fun h => h2 ((lg_cmp_gt v hi).mp h)), if_pos]
      rw [fa_lt64] at h2
      rw [fa_le64, fa_le64]
      omega
/-- in(v, 0, pins - 1), ints widened -/
theorem in_pin (N : Nat) (x : Int32) {P : Nat} (hP : P ≤ 9) : f_X8_in N x.toInt64 (0 : Int64) ((nI P - (1 : Int32)).toInt64) = some (if x < 0 ∨ nI P ≤ x then 0 else 1) := by
  rw [in_ok]
  congr 1
  have e1 : (nI P - (1 : Int32)).toInt = (P : Int) - 1 := pk_sub_toInt (a := P) (b := 1) (by omega) (by omega)
  have e2 : (nI P).toInt = (P : Int) := nI_toInt (by omega)
  have e3 : (0 : Int64).toInt = 0 := by decide
  have e4 : (0 : Int32).toInt = 0 := by decide
  by_cases h : x < 0 ∨ nI P ≤ x
  · rw [if_pos h, if_neg]
    rw [fa_lt, fa_le, e2, e4] at h
    rw [fa_le64, fa_le64, Int32.toInt_toInt64, Int32.toInt_toInt64, e1, e3]
    omega
  · rw [if_neg h, if_pos]
    rw [fa_lt, fa_le, e2, e4] at h
    rw [fa_le64, fa_le64, Int32.toInt_toInt64, Int32.toInt_toInt64, e1, e3]
    omega
/-- in(v, lo, hi) of written numbers -/
theorem in_lit (N : Nat) (x : Int32) (a b : Int32) : f_X8_in N x.toInt64 a.toInt64 b.toInt64 = some (if x < a ∨ b < x then 0 else 1) := by
  rw [in_ok]
  congr 1
  by_cases h : x < a ∨ b < x
  · rw [if_pos h, if_neg]
    rw [fa_lt, fa_lt] at h
    rw [fa_wide_le, fa_wide_le, fa_le, fa_le]
    omega
  · rw [if_neg h, if_pos]
    rw [fa_lt, fa_lt] at h
    rw [fa_wide_le, fa_wide_le, fa_le, fa_le]
    omega
