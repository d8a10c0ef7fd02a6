/-! rows of plain pins -/
def inn (r : Nat → Nat) (c : Nat) : Nat → Nat → Nat → Nat
  | 0, _, M => M
  | d + 1, j, M => inn r c d (j + 1) (M ||| 2 ^ (r j ^^^ r (c - j)))
def oun (r : Nat → Nat) (n : Nat) : Nat → Nat → Nat → Nat
  | 0, _, M => M
  | d + 1, m, M => oun r n d (m + 1) (inn r (n - m) (n - m + 1) 0 M)
set_option maxRecDepth 100000 in
theorem aN32 : ∀ k, k < 32 → (1 : Int64) <<< ((nI k).toInt64 &&& 63) = lN (2 ^ k) := by decide +kernel
theorem aXor {a b : Nat} (ha : a < 32) (hb : b < 32) : (1 : Int64) <<< ((nI a ^^^ nI b).toInt64 &&& 63) = lN (2 ^ (a ^^^ b)) := by
  rw [nx_xor]
  exact aN32 _ (Nat.xor_lt_two_pow (n := 5) ha hb)
theorem rowT_lt : ∀ q, q < 4 → ∀ n, n < 41 → rowT q n < 32 := by decide +kernel
theorem nOf26 {q c : Nat} {R : Nat → Int32} (hq : q < 4) (hc : c < 40) (hR : ∀ i, i ≤ c → R i = nI (rowT q i)) (kk : Int64 → Option Int32) :
    ∀ (d n j M : Nat), j + d = c + 1 → d < n → f_X4_numberOf_L26 1000 (nI c) R kk n (lN M) (nI j) = kk (lN (inn (rowT q) c d j M)) := by
  intro d
  induction d with
  | zero =>
    intro n j M h1 h2
    obtain ⟨n, rfl⟩ : ∃ k, n = k + 1 := ⟨n - 1, by omega⟩
    rw [f_X4_numberOf_L26, if_pos (nI_lt (by omega) (by omega))]
    rfl
  | succ d ih =>
    intro n j M h1 h2
    obtain ⟨n, rfl⟩ : ∃ k, n = k + 1 := ⟨n - 1, by omega⟩
    rw [f_X4_numberOf_L26, if_neg (nI_nlt (by omega) (by omega)), gd_i (by omega) (by omega), pk_sub (show j ≤ c by omega), gd_i (by omega) (by omega), nI_clamp (by omega), nI_clamp (by omega), hR j (by omega), hR (c - j) (by omega), aXor (rowT_lt q hq j (by omega)) (rowT_lt q hq (c - j) (by omega)), fb_orL, nI_1]
    exact ih n (j + 1) _ (by omega) (by omega)
theorem nOf31 {q c m nn : Nat} {R : Nat → Int32} (hq : q < 4) (hc : c + m = nn) (hn : nn ≤ 40) (hm : 1 ≤ m) (hR : ∀ i, i ≤ c → R i = nI (rowT q i)) (kk : Int64 → Option (Nat → Int32)) :
    ∀ (d n j M : Nat), j + d = c + 1 → d < n → f_X8_layRows_L31 1000 (nI nn) (nI m) R kk n (lN M) (nI j) = kk (lN (inn (rowT q) c d j M)) := by
  intro d
  induction d with
  | zero =>
    intro n j M h1 h2
    obtain ⟨n, rfl⟩ : ∃ k, n = k + 1 := ⟨n - 1, by omega⟩
    rw [f_X8_layRows_L31, nI_add, if_pos (nI_lt (by omega) (by omega))]
    rfl
  | succ d ih =>
    intro n j M h1 h2
    obtain ⟨n, rfl⟩ : ∃ k, n = k + 1 := ⟨n - 1, by omega⟩
    rw [f_X8_layRows_L31, nI_add, if_neg (nI_nlt (by omega) (by omega)), gd_i (by omega) (by omega), pk_sub (show m ≤ nn by omega), show nn - m = c by omega, pk_sub (show j ≤ c by omega), gd_i (by omega) (by omega), nI_clamp (by omega), nI_clamp (by omega), hR j (by omega), hR (c - j) (by omega), aXor (rowT_lt q hq j (by omega)) (rowT_lt q hq (c - j) (by omega)), fb_orL, nI_1]
    exact ih n (j + 1) _ (by omega) (by omega)
theorem nOf5 {q nn : Nat} {R : Nat → Int32} (hq : q < 4) (hn : nn ≤ 40) (hR : ∀ i, i < nn → R i = nI (rowT q i)) (kk : Int64 → Option Int32) :
    ∀ (d n m M : Nat), 1 ≤ m → m + d = min q nn + 1 → d < n → f_X4_numberOf_L5 1000 (nI nn) (nI q) R kk n (lN M) (nI m) = kk (lN (oun (rowT q) nn d m M)) := by
  intro d
  induction d with
  | zero =>
    intro n m M h0 h1 h2
    obtain ⟨n, rfl⟩ : ∃ k, n = k + 1 := ⟨n - 1, by omega⟩
    rw [f_X4_numberOf_L5]
    by_cases h : q < m
    · rw [if_pos (nI_lt h (by omega))]
      rfl
    · rw [if_neg (nI_nlt (by omega) (by omega)), if_pos (nI_lt (by omega) (by omega))]
      rfl
  | succ d ih =>
    intro n m M h0 h1 h2
    obtain ⟨n, rfl⟩ : ∃ k, n = k + 1 := ⟨n - 1, by omega⟩
    rw [f_X4_numberOf_L5, if_neg (nI_nlt (by omega) (by omega)), if_neg (nI_nlt (by omega) (by omega)), pk_sub (show m ≤ nn by omega)]
    rw [show (0 : Int32) = nI 0 from rfl, nOf26 hq (show nn - m < 40 by omega) (fun i hi => hR i (by omega)) _ (nn - m + 1) 1000 0 M (by omega) (by omega), nI_1]
    exact ih n (m + 1) _ (by omega) (by omega) (by omega)
theorem nOf13 {q nn : Nat} {R : Nat → Int32} (hq : q < 4) (hn : nn ≤ 40) (hR : ∀ i, i < nn → R i = nI (rowT q i)) (kk : Int64 → Option (Nat → Int32)) :
    ∀ (d n m M : Nat), 1 ≤ m → m + d = min q nn + 1 → d < n → f_X8_layRows_L13 1000 (nI nn) (nI q) R kk n (lN M) (nI m) = kk (lN (oun (rowT q) nn d m M)) := by
  intro d
  induction d with
  | zero =>
    intro n m M h0 h1 h2
    obtain ⟨n, rfl⟩ : ∃ k, n = k + 1 := ⟨n - 1, by omega⟩
    rw [f_X8_layRows_L13]
    by_cases h : q < m
    · rw [if_pos (nI_lt h (by omega))]
      rfl
    · rw [if_neg (nI_nlt (by omega) (by omega)), if_pos (nI_lt (by omega) (by omega))]
      rfl
  | succ d ih =>
    intro n m M h0 h1 h2
    obtain ⟨n, rfl⟩ : ∃ k, n = k + 1 := ⟨n - 1, by omega⟩
    rw [f_X8_layRows_L13, if_neg (nI_nlt (by omega) (by omega)), if_neg (nI_nlt (by omega) (by omega))]
    rw [show (0 : Int32) = nI 0 from rfl, nOf31 hq (show (nn - m) + m = nn by omega) hn h0 (fun i hi => hR i (by omega)) _ (nn - m + 1) 1000 0 M (by omega) (by omega), nI_1]
    exact ih n (m + 1) _ (by omega) (by omega) (by omega)
set_option maxRecDepth 100000 in
theorem rowC7 : ∀ q, q < 4 → 1 ≤ q → ∀ n, n < 41 → f_X7_leastNotIn 1000 (lN (oun (rowT q) n (min q n) 1 0)) = some (nI (rowT q n)) := by decide +kernel
set_option maxRecDepth 100000 in
theorem rowC8 : ∀ q, q < 4 → 1 ≤ q → ∀ n, n < 41 → f_X8_leastNot 1000 (lN (oun (rowT q) n (min q n) 1 0)) = some (nI (rowT q n)) := by decide +kernel
def RowD (q : Nat) (R : Nat → Int32) : Prop := ∀ n, n ≤ 40 → R n = nI (rowT q n)
theorem rowPut {q s : Nat} {R : Nat → Int32} (h : ∀ i, i < s → R i = nI (rowT q i)) : ∀ i, i < s + 1 → upd R s (nI (rowT q s)) i = nI (rowT q i) := by
  intro i hi
  unfold upd
  by_cases e : i = s
  · subst e; rw [if_pos rfl]
  · rw [if_neg e, h i (by omega)]
theorem fillFor_L {q : Nat} (hq : q < 4) (hq1 : 1 ≤ q) (kk : (Nat → Int32) → Option (Int32 × (Nat → Int32))) :
    ∀ (d n s : Nat) (R : Nat → Int32), s + d = 41 → d < n → (∀ i, i < s → R i = nI (rowT q i)) → ∃ R' : Nat → Int32, RowD q R' ∧ f_X4_fillFor_L11 1000 (nI q) kk n (nI s) R = kk R' := by
  intro d
  induction d with
  | zero =>
    intro n s R h1 h2 h3
    obtain ⟨n, rfl⟩ : ∃ k, n = k + 1 := ⟨n - 1, by omega⟩
    refine ⟨R, fun n hn => h3 n (by omega), ?_⟩
    rw [f_X4_fillFor_L11, if_pos (show (40 : Int32) < nI s from nI_lt (a := 40) (by omega) (by omega))]
  | succ d ih =>
    intro n s R h1 h2 h3
    obtain ⟨n, rfl⟩ : ∃ k, n = k + 1 := ⟨n - 1, by omega⟩
    obtain ⟨R', q1, q2⟩ := ih n (s + 1) (upd R s (nI (rowT q s))) (by omega) (by omega) (rowPut h3)
    refine ⟨R', q1, ?_⟩
    have e : f_X4_numberOf 1000 R (nI s) (nI q) = some (nI (rowT q s)) := by
      unfold f_X4_numberOf
      rw [show (0 : Int64) = lN 0 from rfl, show (1 : Int32) = nI 1 from rfl, nOf5 hq (by omega) h3 _ (min q s) 1000 1 0 (by omega) (by omega) (by omega), rowC7 q hq hq1 s (by omega), ob1_s]
    rw [f_X4_fillFor_L11, if_neg (show ¬ (40 : Int32) < nI s from nI_nlt (a := 40) (by omega) (by omega)), e, ob1_s, gd_i (by omega) (by omega), nI_1, nI_clamp (by omega)]
    exact q2
theorem fillFor_ok {q : Nat} (hq : q < 4) (hq1 : 1 ≤ q) {f : Int32} {R : Nat → Int32} (h : RowR f R) : ∃ R' : Nat → Int32, RowD q R' ∧ f_X4_fillFor 1000 f R (nI q) = some (nI q, R') := by
  unfold f_X4_fillFor
  by_cases e : f = nI q
  · rw [if_pos e]
    rcases h with h | ⟨k, k1, k2, k3, k4⟩
    · exact absurd (h.symm.trans e).symm (nI_ne0 (by omega) (by omega))
    · have : k = q := (nI_eq (by omega) (by omega)).mp (k3.symm.trans e)
      subst this
      exact ⟨R, k4, by rw [e]⟩
  · rw [if_neg e]
    exact fillFor_L hq hq1 _ 41 1000 0 R (by omega) (by omega) (fun i hi => absurd hi (Nat.not_lt_zero i))
theorem rowsNow_ok {q : Nat} (hq : q < 4) (hq1 : 1 ≤ q) {f : Int32} {R : Nat → Int32} (h : RowR f R) : ∃ R' : Nat → Int32, RowD q R' ∧ f_X7_rowsNow 1000 (nI q) f R = some (nI q, R') := by
  obtain ⟨R', q1, q2⟩ := fillFor_ok hq hq1 h
  refine ⟨R', q1, ?_⟩
  unfold f_X7_rowsNow
  rw [q2]
  rfl
theorem RowD.r {q : Nat} {R : Nat → Int32} (h : RowD q R) (hq : q < 4) (hq1 : 1 ≤ q) : RowR (nI q) R := Or.inr ⟨q, hq1, by omega, rfl, h⟩
theorem layRows_L {q : Nat} (hq : q < 4) (hq1 : 1 ≤ q) :
    ∀ (d n s : Nat) (R : Nat → Int32), s + d = 41 → d < n → (∀ i, i < s → R i = nI (rowT q i)) → ∃ R' : Nat → Int32, RowD q R' ∧ f_X8_layRows_L2 1000 (nI q) n (nI s) R = some R' := by
  intro d
  induction d with
  | zero =>
    intro n s R h1 h2 h3
    obtain ⟨n, rfl⟩ : ∃ k, n = k + 1 := ⟨n - 1, by omega⟩
    refine ⟨R, fun n hn => h3 n (by omega), ?_⟩
    rw [f_X8_layRows_L2, if_pos (show (41 : Int32) ≤ nI s from nI_le (a := 41) (by omega) (by omega))]
  | succ d ih =>
    intro n s R h1 h2 h3
    obtain ⟨n, rfl⟩ : ∃ k, n = k + 1 := ⟨n - 1, by omega⟩
    obtain ⟨R', q1, q2⟩ := ih n (s + 1) (upd R s (nI (rowT q s))) (by omega) (by omega) (rowPut h3)
    refine ⟨R', q1, ?_⟩
    rw [f_X8_layRows_L2, if_neg (show ¬ (41 : Int32) ≤ nI s from nI_ge (b := 41) (by omega) (by omega)), show (0 : Int64) = lN 0 from rfl, show (1 : Int32) = nI 1 from rfl, nOf13 hq (by omega) h3 _ (min q s) 1000 1 0 (by omega) (by omega) (by omega), rowC8 q hq hq1 s (by omega), ob1_s, gd_i (by omega) (by omega), nI_clamp (by omega), nI_add]
    exact q2
theorem layRows_ok {q : Nat} (hq : q < 4) (hq1 : 1 ≤ q) (R : Nat → Int32) : ∃ R' : Nat → Int32, RowD q R' ∧ f_X8_layRows 1000 (nI q) R = some R' := layRows_L hq hq1 41 1000 0 R (by omega) (by omega) (fun i hi => absurd hi (Nat.not_lt_zero i))
