def rowF (q n : Nat) : Int32 := nI (rowT q n)
theorem inb_lt {i : Int32} {n : Nat} (h : inb i n = true) : i.toNatClampNeg < n := by
  unfold inb at h
  rw [Bool.and_eq_true] at h
  exact of_decide_eq_true h.2
theorem gd_c {β : Type} {b : Bool} {x y : Option β} (h : b = true → x = y) : gd b x = gd b y := by
  unfold gd
  by_cases hb : b = true
  · rw [if_pos hb, if_pos hb, h hb]
  · rw [if_neg hb, if_neg hb]
theorem gd_m {β γ : Type} {b : Bool} {x : Option β} {y : Option γ} {g : β → γ} (h : b = true → y = x.map g) : gd b y = (gd b x).map g := by
  unfold gd
  by_cases hb : b = true
  · rw [if_pos hb, if_pos hb, h hb]
  · rw [if_neg hb, if_neg hb]; rfl
theorem RowD.at {q : Nat} {R : Nat → Int32} (h : RowD q R) {i : Nat} (hi : i < 41) : R i = rowF q i := h i (by omega)
theorem alike_c {q : Nat} {R : Nat → Int32} (h : RowD q R) (x : Int32) : ∀ (n : Nat) (i : Int32), f_X4_alike_L2 1000 x R n i = f_X4_alike_L2 1000 x (rowF q) n i := by
  intro n
  induction n with
  | zero => intro i; rfl
  | succ n ih =>
    intro i
    rw [f_X4_alike_L2, f_X4_alike_L2]
    by_cases c : (40 : Int32) < i
    · rw [if_pos c, if_pos c]
    · rw [if_neg c, if_neg c]
      exact gd_c (fun hb => by rw [h.at (inb_lt hb), ih])
theorem alikeOf_c {q : Nat} {R nu : Nat → Int32} (h : RowD q R) (x : Int32) : ∀ (n : Nat) (t i : Int32), f_X8_alikeOf_L16 1000 x R nu n t i = (f_X8_alikeOf_L16 1000 x (rowF q) (rowF q) n t i).map (fun p => (p.1, R, nu)) := by
  intro n
  induction n with
  | zero => intro t i; rfl
  | succ n ih =>
    intro t i
    rw [f_X8_alikeOf_L16, f_X8_alikeOf_L16]
    by_cases c : i < (0 : Int32)
    · rw [if_pos c, if_pos c]; rfl
    · rw [if_neg c, if_neg c]
      refine gd_m (fun hb => ?_)
      simp only [jm_s]
      rw [h.at (inb_lt hb)]
      by_cases e : rowF q i.toNatClampNeg = x
      · rw [if_pos e, if_pos e, ih]
      · rw [if_neg e, if_neg e, ih]
def alV (q v : Nat) : Int32 := (f_X4_alike 1000 (rowF q) (nI v)).getD 0
set_option maxRecDepth 100000 in
theorem alC7 : ∀ q, q < 4 → 1 ≤ q → ∀ v, v < 10 → f_X4_alike 1000 (rowF q) (nI v) = some (alV q v) := by decide +kernel
set_option maxRecDepth 100000 in
theorem alC8 : ∀ q, q < 4 → 1 ≤ q → ∀ v, v < 10 → (f_X8_alikeOf_L16 1000 (nI v) (rowF q) (rowF q) 1000 (-1) 40).map (fun p => p.1) = some (alV q v) := by decide +kernel
theorem alike_ok {q v : Nat} {R : Nat → Int32} (hq : q < 4) (hq1 : 1 ≤ q) (h : RowD q R) (hv : v < 10) : f_X4_alike 1000 R (nI v) = some (alV q v) := by
  rw [← alC7 q hq hq1 v hv]
  exact alike_c h _ _ _
theorem alikeOf_ok {q v : Nat} {R nu : Nat → Int32} (hq : q < 4) (hq1 : 1 ≤ q) (h : RowD q R) (hv : v < 10) : f_X8_alikeOf_L16 1000 (nI v) R nu 1000 (-1) 40 = some (alV q v, R, nu) := by
  rw [alikeOf_c h]
  have := alC8 q hq hq1 v hv
  revert this
  cases f_X8_alikeOf_L16 1000 (nI v) (rowF q) (rowF q) 1000 (-1) 40 with
  | none => intro e; cases e
  | some p => intro e; rw [Option.map_some, Option.some.injEq] at e; rw [Option.map_some, e]
theorem leastFrom_c {q : Nat} {R : Nat → Int32} (h : RowD q R) (x : Int32) : ∀ (n : Nat) (i : Int32), f_X4_leastFrom_L5 1000 x R n i = f_X4_leastFrom_L5 1000 x (rowF q) n i := by
  intro n
  induction n with
  | zero => intro i; rfl
  | succ n ih =>
    intro i
    rw [f_X4_leastFrom_L5, f_X4_leastFrom_L5]
    by_cases c : i ≤ (0 : Int32)
    · rw [if_pos c, if_pos c]
    · rw [if_neg c, if_neg c]
      exact gd_c (fun hb => gd_c (fun hb2 => by rw [h.at (inb_lt hb), h.at (inb_lt hb2), ih]))
theorem fromBy_c {q : Nat} {R : Nat → Int32} (h : RowD q R) (x : Int32) : ∀ (n : Nat) (t i : Int32), f_X8_fromBy_L4 1000 x R n t i = f_X8_fromBy_L4 1000 x (rowF q) n t i := by
  intro n
  induction n with
  | zero => intro t i; rfl
  | succ n ih =>
    intro t i
    rw [f_X8_fromBy_L4, f_X8_fromBy_L4]
    by_cases c : (41 : Int32) ≤ i + x
    · rw [if_pos c, if_pos c]
    · rw [if_neg c, if_neg c]
      refine gd_c (fun hb => gd_c (fun hb2 => ?_))
      simp only [jm_s]
      rw [h.at (inb_lt hb), h.at (inb_lt hb2), ih, ih]
def frV (q s : Nat) : Nat := ((f_X4_leastFrom 1000 (rowF q) (nI s)).getD 0).toNatClampNeg
set_option maxRecDepth 100000 in
theorem frC7 : ∀ q, q < 4 → 1 ≤ q → ∀ s, s < 21 → 1 ≤ s → f_X4_leastFrom 1000 (rowF q) (nI s) = some (nI (frV q s)) ∧ frV q s < 41 := by decide +kernel
set_option maxRecDepth 100000 in
theorem frC8 : ∀ q, q < 4 → 1 ≤ q → ∀ s, s < 21 → 1 ≤ s → f_X8_fromBy 1000 (rowF q) (nI s) = some (nI (frV q s)) := by decide +kernel
theorem leastFrom_ok {q s : Nat} {R : Nat → Int32} (hq : q < 4) (hq1 : 1 ≤ q) (h : RowD q R) (hs : s < 21) (hs1 : 1 ≤ s) : f_X4_leastFrom 1000 R (nI s) = some (nI (frV q s)) := by
  rw [← (frC7 q hq hq1 s hs hs1).1]
  exact leastFrom_c h _ _ _
theorem fromBy_ok {q s : Nat} {R : Nat → Int32} (hq : q < 4) (hq1 : 1 ≤ q) (h : RowD q R) (hs : s < 21) (hs1 : 1 ≤ s) : f_X8_fromBy 1000 R (nI s) = some (nI (frV q s)) := by
  rw [← frC8 q hq hq1 s hs hs1]
  exact fromBy_c h _ _ _ _
/-- the least period from s on; 21: there is none -/
def perS (q : Nat) : Nat → Nat → Nat
  | 0, _ => 21
  | d + 1, s => if frV q s ≤ 20 then s else perS q d (s + 1)
theorem perS_lt (q : Nat) : ∀ d s, s + d = 21 → perS q d s < 21 ∨ perS q d s = 21
  | 0, s, h => Or.inr rfl
  | d + 1, s, h => by
    rw [perS]
    by_cases e : frV q s ≤ 20
    · rw [if_pos e]; omega
    · rw [if_neg e]; exact perS_lt q d (s + 1) (by omega)
theorem perS_ge (q : Nat) : ∀ d s, s + d = 21 → s ≤ perS q d s
  | 0, s, h => by rw [perS]; omega
  | d + 1, s, h => by
    rw [perS]
    by_cases e : frV q s ≤ 20
    · rw [if_pos e]; omega
    · rw [if_neg e]; exact Nat.le_of_succ_le (perS_ge q d (s + 1) (by omega))
theorem leastPeriod_L {q : Nat} {R : Nat → Int32} (hq : q < 4) (hq1 : 1 ≤ q) (h : RowD q R) : ∀ (d n s : Nat), 1 ≤ s → s + d = 21 → d < n → f_X4_leastPeriod_L2 1000 R n (nI s) = some (if perS q d s = 21 then -1 else nI (perS q d s)) := by
  intro d
  induction d with
  | zero =>
    intro n s h0 h1 h2
    obtain ⟨n, rfl⟩ : ∃ k, n = k + 1 := ⟨n - 1, by omega⟩
    rw [f_X4_leastPeriod_L2, if_pos (show (20 : Int32) < nI s from nI_lt (a := 20) (by omega) (by omega))]
    rfl
  | succ d ih =>
    intro n s h0 h1 h2
    obtain ⟨n, rfl⟩ : ∃ k, n = k + 1 := ⟨n - 1, by omega⟩
    have hb := (frC7 q hq hq1 s (by omega) h0).2
    rw [f_X4_leastPeriod_L2, if_neg (show ¬ (20 : Int32) < nI s from nI_nlt (a := 20) (by omega) (by omega)), leastFrom_ok hq hq1 h (by omega) h0, ob1_s, perS]
    by_cases e : frV q s ≤ 20
    · rw [if_pos e, if_neg (show ¬ (20 : Int32) < nI (frV q s) from nI_nlt (a := 20) e (by omega)), if_neg (by omega)]
    · rw [if_neg e, if_pos (show (20 : Int32) < nI (frV q s) from nI_lt (a := 20) (by omega) (by omega)), nI_1]
      exact ih n (s + 1) (by omega) (by omega) (by omega)
theorem periodOf_L {q : Nat} {R : Nat → Int32} (hq : q < 4) (hq1 : 1 ≤ q) (h : RowD q R) (kk : Int32 → Option (Int32 × (Nat → Int32))) : ∀ (d n s : Nat), 1 ≤ s → s + d = 21 → d < n → f_X8_periodOf_L6 1000 R kk n (nI s) = if perS q d s = 21 then some (-1, R) else kk (nI (perS q d s)) := by
  intro d
  induction d with
  | zero =>
    intro n s h0 h1 h2
    obtain ⟨n, rfl⟩ : ∃ k, n = k + 1 := ⟨n - 1, by omega⟩
    rw [f_X8_periodOf_L6, if_pos (show (21 : Int32) ≤ nI s from nI_le (a := 21) (by omega) (by omega))]
    rfl
  | succ d ih =>
    intro n s h0 h1 h2
    obtain ⟨n, rfl⟩ : ∃ k, n = k + 1 := ⟨n - 1, by omega⟩
    have hb := (frC7 q hq hq1 s (by omega) h0).2
    rw [f_X8_periodOf_L6, if_neg (show ¬ (21 : Int32) ≤ nI s from nI_ge (b := 21) (by omega) (by omega)), fromBy_ok hq hq1 h (by omega) h0, ob1_s, perS]
    by_cases e : frV q s ≤ 20
    · rw [if_pos e, if_neg (show ¬ (21 : Int32) ≤ nI (frV q s) from nI_ge (b := 21) (by omega) (by omega)), if_neg (by omega)]
    · rw [if_neg e, if_pos (show (21 : Int32) ≤ nI (frV q s) from nI_le (a := 21) (by omega) (by omega)), nI_1]
      exact ih n (s + 1) (by omega) (by omega) (by omega)
def perV (q : Nat) (w : Nat) : Int32 := if perS q 20 1 = 21 then -1 else if w = 0 then nI (perS q 20 1) else nI (frV q (perS q 20 1))
theorem mPer_ok {q w : Nat} (hq : q < 4) (hq1 : 1 ≤ q) (hw : w < 2 ^ 31) (R : Nat → Int32) : ∃ R' : Nat → Int32, f_X8_periodOf 1000 (nI q) R (nI w) = some (perV q w, R') := by
  obtain ⟨R', q1, q2⟩ := layRows_ok hq hq1 R
  refine ⟨R', ?_⟩
  have g1 := perS_ge q 20 1 rfl
  have g2 := perS_lt q 20 1 rfl
  unfold f_X8_periodOf perV
  rw [q2, ob1_s, show (1 : Int32) = nI 1 from rfl, periodOf_L hq hq1 q1 _ 20 1000 1 (by omega) (by omega) (by omega)]
  by_cases e : perS q 20 1 = 21
  · rw [if_pos e, if_pos e]; rfl
  · rw [if_neg e, if_neg e]
    by_cases ew : w = 0
    · subst ew
      rw [if_pos (show nI 0 = (0 : Int32) from rfl), if_pos rfl]
    · rw [if_neg (show ¬ nI w = (0 : Int32) from nI_ne0 (by omega) hw), if_neg ew, fromBy_ok hq hq1 q1 (by omega) g1, ob1_s]
theorem mRow_ok {q w : Nat} (hq : q < 4) (hq1 : 1 ≤ q) (hw : w < 41) (R : Nat → Int32) : ∃ R' : Nat → Int32, f_X8_rowOf 1000 (nI q) R (nI w) = some (nI (rowT q w), R') := by
  obtain ⟨R', q1, q2⟩ := layRows_ok hq hq1 R
  refine ⟨R', ?_⟩
  unfold f_X8_rowOf
  rw [q2, ob1_s, gd_i hw (by omega), nI_clamp (by omega), q1 w (by omega)]
theorem cRow_ok {P q w : Nat} (hP : P ≤ 9) (h0 : 0 < P) (hq : q < 4) (hq1 : 1 ≤ q) (hw : w < 41) {f : Int32} {R : Nat → Int32} (h : RowR f R) : ∃ R' : Nat → Int32, RowD q R' ∧ f_X7_row 1000 (nI P) (nI q) f R (nI w) = some (nI (rowT q w), nI q, R') := by
  obtain ⟨R', q1, q2⟩ := rowsNow_ok hq hq1 h
  refine ⟨R', q1, ?_⟩
  unfold f_X7_row
  rw [if_neg (nI_pos (by omega)), if_pos (show nI w ≤ (40 : Int32) from nI_le (b := 40) (by omega) (by omega)), hasGreen_ok hP, ob1_s, if_neg (show ¬ P = 0 by omega), if_neg n10, q2, ob2_s, gd_i hw (by omega), nI_clamp (by omega), q1 w (by omega)]
theorem cPer_ok {P q w : Nat} (hP : P ≤ 9) (h0 : 0 < P) (hq : q < 4) (hq1 : 1 ≤ q) (hw : w < 2) {f : Int32} {R : Nat → Int32} (h : RowR f R) : ∃ R' : Nat → Int32, RowD q R' ∧ f_X7_period 1000 (nI P) (nI q) f R (nI w) = some (perV q w, nI q, R') := by
  obtain ⟨R', q1, q2⟩ := rowsNow_ok hq hq1 h
  obtain ⟨R2, q3, q4⟩ := rowsNow_ok hq hq1 (q1.r hq hq1)
  have g1 := perS_ge q 20 1 rfl
  have g2 := perS_lt q 20 1 rfl
  have e7 : f_X4_leastPeriod 1000 R' = some (if perS q 20 1 = 21 then -1 else nI (perS q 20 1)) := leastPeriod_L hq hq1 q1 20 1000 1 (by omega) (by omega) (by omega)
  unfold f_X7_period perV
  rw [if_neg (nI_pos (by omega)), if_pos (show nI w ≤ (1 : Int32) from nI_le (b := 1) (by omega) (by omega)), hasGreen_ok hP, ob1_s, if_neg (show ¬ P = 0 by omega), if_neg n10, q2, ob2_s, e7, ob1_s]
  by_cases e : perS q 20 1 = 21
  · rw [if_pos e, if_pos rfl, if_pos e]
    exact ⟨R', q1, rfl⟩
  · rw [if_neg e, if_neg (nI_m1 (by omega)), if_neg e]
    by_cases ew : w = 0
    · subst ew
      rw [if_pos (show nI 0 = (0 : Int32) from rfl), if_pos rfl]
      exact ⟨R', q1, rfl⟩
    · rw [if_neg (show ¬ nI w = (0 : Int32) from nI_ne0 (by omega) (by omega)), if_neg ew, q4, ob2_s, leastFrom_ok hq hq1 q3 (by omega) g1, ob1_s]
      exact ⟨R2, q3, rfl⟩
theorem in040 (x : Int32) : f_X8_in 1000 x.toInt64 (0 : Int64) (40 : Int64) = some (if x < 0 ∨ 40 < x then 0 else 1) := in_lit 1000 x 0 40
theorem in01 (x : Int32) : f_X8_in 1000 x.toInt64 (0 : Int64) (1 : Int64) = some (if x < 0 ∨ 1 < x then 0 else 1) := in_lit 1000 x 0 1
theorem in03 (x : Int32) : f_X8_in 1000 x.toInt64 (0 : Int64) (3 : Int64) = some (if x < 0 ∨ 3 < x then 0 else 1) := in_lit 1000 x 0 3
theorem in02 (x : Int32) : f_X8_in 1000 x.toInt64 (0 : Int64) (2 : Int64) = some (if x < 0 ∨ 2 < x then 0 else 1) := in_lit 1000 x 0 2
theorem upto {x M : Int32} {n : Nat} (hM : M.toInt = n) (h : ¬ (x < 0 ∨ M < x)) : ∃ j : Nat, j ≤ n ∧ x = nI j := by
  refine nI_of2 hM (fun g => h (Or.inl g)) ?_
  exact fa_of_nlt (fun g => h (Or.inr g))
theorem nle_of {x M : Int32} (h : M < x) : ¬ x ≤ M := (fa_of_lt h).2.1
theorem k_row {P q : Nat} (hP : P ≤ 9) (hq : q ≤ 3) (h1 : 0 < P → 1 ≤ q) {f : Int32} {R : Nat → Int32} (h : RowR f R) (M : Nat → Int32) (x : Int32) : ∃ (a0 f' : Int32) (R' M' : Nat → Int32), RowR f' R' ∧ f_X7_row 1000 (nI P) (nI q) f R x = some (a0, f', R') ∧ f_X8_row 1000 (nI P) (nI q) M x = some (a0, M') := by
  by_cases hx : x < 0 ∨ 40 < x
  · refine ⟨-102, f, R, M, h, ?_, ?_⟩
    · unfold f_X7_row
      by_cases c : x < 0
      · rw [if_pos c]
      · rw [if_neg c, if_neg (nle_of (hx.resolve_left c))]
    · unfold f_X8_row
      rw [in040, ob1_s, if_pos hx, if_pos rfl]
  · obtain ⟨j, hj, rfl⟩ := upto (n := 40) rfl hx
    have e8 : f_X8_row 1000 (nI P) (nI q) M (nI j) = if P = 0 then some (-103, M) else ob2 (f_X8_rowOf 1000 (nI q) M (nI j)) (fun a3 a4 => some (a3, a4)) := by
      unfold f_X8_row
      rw [in040, ob1_s, if_neg hx, if_neg n10, lacks_ok hP, ob1_s]
      by_cases e : P = 0
      · rw [if_pos e, if_neg n10, if_pos e]
      · rw [if_neg e, if_pos rfl, if_neg e]
    by_cases e : P = 0
    · refine ⟨-103, f, R, M, h, ?_, by rw [e8, if_pos e]⟩
      unfold f_X7_row
      rw [if_neg (nI_pos (by omega)), if_pos (show nI j ≤ (40 : Int32) from nI_le (b := 40) (by omega) (by omega)), hasGreen_ok hP, ob1_s, if_pos e, if_pos rfl]
    · obtain ⟨R', q1, q2⟩ := cRow_ok hP (show 0 < P by omega) (show q < 4 by omega) (h1 (by omega)) (show j < 41 by omega) h
      obtain ⟨M', q3⟩ := mRow_ok (show q < 4 by omega) (h1 (by omega)) (show j < 41 by omega) M
      exact ⟨_, _, R', M', q1.r (by omega) (h1 (by omega)), q2, by rw [e8, if_neg e, q3]; rfl⟩
theorem k_period {P q : Nat} (hP : P ≤ 9) (hq : q ≤ 3) (h1 : 0 < P → 1 ≤ q) {f : Int32} {R : Nat → Int32} (h : RowR f R) (M : Nat → Int32) (x : Int32) : ∃ (a0 f' : Int32) (R' M' : Nat → Int32), RowR f' R' ∧ f_X7_period 1000 (nI P) (nI q) f R x = some (a0, f', R') ∧ f_X8_period 1000 (nI P) (nI q) M x = some (a0, M') := by
  by_cases hx : x < 0 ∨ 1 < x
  · refine ⟨-102, f, R, M, h, ?_, ?_⟩
    · unfold f_X7_period
      by_cases c : x < 0
      · rw [if_pos c]
      · rw [if_neg c, if_neg (nle_of (hx.resolve_left c))]
    · unfold f_X8_period
      rw [in01, ob1_s, if_pos hx, if_pos rfl]
  · obtain ⟨j, hj, rfl⟩ := upto (n := 1) rfl hx
    have e8 : f_X8_period 1000 (nI P) (nI q) M (nI j) = if P = 0 then some (-103, M) else ob2 (f_X8_periodOf 1000 (nI q) M (nI j)) (fun a3 a4 => some (a3, a4)) := by
      unfold f_X8_period
      rw [in01, ob1_s, if_neg hx, if_neg n10, lacks_ok hP, ob1_s]
      by_cases e : P = 0
      · rw [if_pos e, if_neg n10, if_pos e]
      · rw [if_neg e, if_pos rfl, if_neg e]
    by_cases e : P = 0
    · refine ⟨-103, f, R, M, h, ?_, by rw [e8, if_pos e]⟩
      unfold f_X7_period
      rw [if_neg (nI_pos (by omega)), if_pos (show nI j ≤ (1 : Int32) from nI_le (b := 1) (by omega) (by omega)), hasGreen_ok hP, ob1_s, if_pos e, if_pos rfl]
    · obtain ⟨R', q1, q2⟩ := cPer_ok hP (show 0 < P by omega) (show q < 4 by omega) (h1 (by omega)) (show j < 2 by omega) h
      obtain ⟨M', q3⟩ := mPer_ok (show q < 4 by omega) (h1 (by omega)) (show j < 2 ^ 31 by omega) M
      exact ⟨_, _, R', M', q1.r (by omega) (h1 (by omega)), q2, by rw [e8, if_neg e, q3]; rfl⟩
