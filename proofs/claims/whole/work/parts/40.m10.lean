/-! what is left by a strike; the tables as the document has them, by recursion on what stands -/
def lf (P : Nat) (K La : Nat → Nat) (S no : Nat) : Nat := dif S (fall P K La S (no / 3) (no % 3 + 1))
theorem dif_le (S F : Nat) : dif S F ≤ S := by
  have e : dif S F = S &&& dif S F := by
    apply Nat.eq_of_testBit_eq
    intro i
    rw [Nat.testBit_and, dif_bit]
    cases S.testBit i <;> cases F.testBit i <;> rfl
  rw [e]
  exact Nat.and_le_left
theorem canM_info {S P b f m : Nat} {K La : Nat → Nat} (h : canM S P b K La f m = true) (hm : 1 ≤ m) : f + m ≤ P ∧ m ≤ b ∧ S.testBit f = true := by
  unfold canM at h
  simp only [Bool.and_eq_true, decide_eq_true_eq] at h
  obtain ⟨h1, h2, h3⟩ := h
  have := allI_iff.mp h3 f (Nat.le_refl f) (by omega)
  unfold cq at this
  rw [Bool.and_eq_true] at this
  exact ⟨h2, h1, this.1⟩
theorem fall_info {S P f m : Nat} {K La : Nat → Nat} (hP : P ≤ 9) (hm : 1 ≤ m) (hfm : f + m ≤ P) : fall P K La S f m < 512 ∧ (fall P K La S f m).testBit f = true ∧ fall P K La S f m ≠ 0 := by
  have h1 := goL_le (cL P K La S) f
  have h2 := goR_le (cR P K La S) (9 - (f + m)) (f + m - 1)
  have hb : (fall P K La S f m).testBit f = true := by
    unfold fall
    rw [rn_bit (by omega) (by omega), decide_eq_true h1, decide_eq_true (by omega)]
    rfl
  refine ⟨rn_lt9 _ (by omega) _ (by omega), hb, fun h => ?_⟩
  rw [h, Nat.zero_testBit] at hb
  cases hb
theorem lf_info {S P b no : Nat} {K La : Nat → Nat} (hP : P ≤ 9) (hv : vS S P b K La no = true) : (lf P K La S no).testBit (no / 3) = false ∧ S.testBit (no / 3) = true ∧ no / 3 < P := by
  obtain ⟨h1, h2, h3⟩ := canM_info hv (by omega)
  obtain ⟨g1, g2, g3⟩ := fall_info (S := S) (K := K) (La := La) hP (show 1 ≤ no % 3 + 1 by omega) h1
  refine ⟨?_, h3, by omega⟩
  unfold lf
  rw [dif_bit, g2]
  simp
theorem lf_lt {S P b no : Nat} {K La : Nat → Nat} (hP : P ≤ 9) (hv : vS S P b K La no = true) : lf P K La S no < S := by
  obtain ⟨h1, h2, -⟩ := lf_info hP hv
  rcases Nat.lt_or_ge (lf P K La S no) S with h | h
  · exact h
  · have e : lf P K La S no = S := Nat.le_antisymm (dif_le _ _) h
    rw [e, h2] at h1
    cases h1
theorem lf_sub {S P no : Nat} {K La : Nat → Nat} {i : Nat} (h : (lf P K La S no).testBit i = true) : S.testBit i = true := by
  unfold lf at h
  rw [dif_bit, Bool.and_eq_true] at h
  exact h.1
theorem ct_lt {p q : Nat → Bool} : ∀ {n i : Nat}, (∀ k, p k = true → q k = true) → i < n → p i = false → q i = true → fb_ct p n < fb_ct q n
  | 0, _, _, h, _, _ => absurd h (Nat.not_lt_zero _)
  | n + 1, i, hs, hi, h1, h2 => by
    rw [fb_ct_succ, fb_ct_succ]
    rcases Nat.eq_or_lt_of_le (Nat.le_of_lt_succ hi) with rfl | g
    · have := fb_ct_sub (n := i) (fun k _ h => hs k h)
      rw [h1, h2]
      simp
      omega
    · have := ct_lt (n := n) hs g h1 h2
      have h3 : (if p n = true then 1 else 0) ≤ (if q n = true then 1 else 0) := by
        by_cases h : p n = true
        · rw [if_pos h, if_pos (hs n h)]; exact Nat.le_refl 1
        · rw [if_neg h]; exact Nat.zero_le _
      omega
theorem lf_pc {S P b no : Nat} {K La : Nat → Nat} (hP : P ≤ 9) (hv : vS S P b K La no = true) : pc9 (lf P K La S no) < pc9 S := by
  obtain ⟨h1, h2, h3⟩ := lf_info hP hv
  exact ct_lt (fun k h => lf_sub h) (show no / 3 < 9 by omega) h1 h2
theorem pc9_le (S : Nat) : pc9 S ≤ 9 := fb_ct_le _ 9
/-- a fold over the strikes that there are, by their numbers -/
def fo {α : Type} (v : Nat → Bool) (g : Nat → α → α) : Nat → α → α
  | 0, a => a
  | n + 1, a => if v n = true then g n (fo v g n a) else fo v g n a
theorem fo_cong {α : Type} {v : Nat → Bool} {g h : Nat → α → α} {a : α} : ∀ {n : Nat}, (∀ k x, v k = true → g k x = h k x) → fo v g n a = fo v h n a
  | 0, _ => rfl
  | n + 1, e => by
    rw [fo, fo, fo_cong (n := n) e]
    by_cases hv : v n = true
    · rw [if_pos hv, if_pos hv, e n _ hv]
    · rw [if_neg hv, if_neg hv]
theorem fo_inv {α : Type} {v : Nat → Bool} {g : Nat → α → α} {I : Nat → α → Prop} {a : α} (h0 : I 0 a) (hs : ∀ k x, v k = true → I k x → I (k + 1) (g k x)) (hn : ∀ k x, v k = false → I k x → I (k + 1) x) : ∀ n, I n (fo v g n a)
  | 0 => h0
  | n + 1 => by
    rw [fo]
    by_cases hv : v n = true
    · rw [if_pos hv]; exact hs n _ hv (fo_inv h0 hs hn n)
    · rw [if_neg hv]; exact hn n _ (by simpa using hv) (fo_inv h0 hs hn n)
def spN (P b : Nat) (K La : Nat → Nat) (S : Nat) : Nat := mexB (fo (vS S P b K La) (fun no m => m ||| 2 ^ (if h : lf P K La S no < S then spN P b K La (lf P K La S no) else 0)) (3 * P) 0)
termination_by S
decreasing_by exact h
def gN (P b : Nat) (K La : Nat → Nat) (S no m : Nat) : Nat := m ||| 2 ^ spN P b K La (lf P K La S no)
theorem spN_eq {P b S : Nat} {K La : Nat → Nat} (hP : P ≤ 9) : spN P b K La S = mexB (fo (vS S P b K La) (gN P b K La S) (3 * P) 0) := by
  rw [spN]
  congr 1
  refine fo_cong (fun k x hv => ?_)
  unfold gN
  rw [dif_pos (lf_lt hP hv)]
def spW (P b law : Nat) (K La : Nat → Nat) (S : Nat) : Nat := if fb_ct (vS S P b K La) (3 * P) = 0 then law else fo (vS S P b K La) (fun no w => if (if h : lf P K La S no < S then spW P b law K La (lf P K La S no) else 0) = 0 then 1 else w) (3 * P) 0
termination_by S
decreasing_by exact h
def gW (P b law : Nat) (K La : Nat → Nat) (S no w : Nat) : Nat := if spW P b law K La (lf P K La S no) = 0 then 1 else w
theorem spW_eq {P b law S : Nat} {K La : Nat → Nat} (hP : P ≤ 9) : spW P b law K La S = if fb_ct (vS S P b K La) (3 * P) = 0 then law else fo (vS S P b K La) (gW P b law K La S) (3 * P) 0 := by
  rw [spW]
  congr 1
  refine fo_cong (fun k x hv => ?_)
  unfold gW
  rw [dif_pos (lf_lt hP hv)]
def spF (P b : Nat) (K La : Nat → Nat) (S : Nat) : Nat := if fb_ct (vS S P b K La) (3 * P) = 0 then 0 else fo (vS S P b K La) (fun no w => if (if h : lf P K La S no < S then spF P b K La (lf P K La S no) else 0) + 1 < w then (if h : lf P K La S no < S then spF P b K La (lf P K La S no) else 0) + 1 else w) (3 * P) 99
termination_by S
decreasing_by all_goals exact h
def gF (P b : Nat) (K La : Nat → Nat) (S no w : Nat) : Nat := if spF P b K La (lf P K La S no) + 1 < w then spF P b K La (lf P K La S no) + 1 else w
theorem spF_eq {P b S : Nat} {K La : Nat → Nat} (hP : P ≤ 9) : spF P b K La S = if fb_ct (vS S P b K La) (3 * P) = 0 then 0 else fo (vS S P b K La) (gF P b K La S) (3 * P) 99 := by
  rw [spF]
  congr 1
  refine fo_cong (fun k x hv => ?_)
  unfold gF
  rw [dif_pos (lf_lt hP hv)]
def spM (P b : Nat) (K La : Nat → Nat) (S : Nat) : Nat := fo (vS S P b K La) (fun no w => if w < (if h : lf P K La S no < S then spM P b K La (lf P K La S no) else 0) + 1 then (if h : lf P K La S no < S then spM P b K La (lf P K La S no) else 0) + 1 else w) (3 * P) 0
termination_by S
decreasing_by all_goals exact h
def gM (P b : Nat) (K La : Nat → Nat) (S no w : Nat) : Nat := if w < spM P b K La (lf P K La S no) + 1 then spM P b K La (lf P K La S no) + 1 else w
theorem spM_eq {P b S : Nat} {K La : Nat → Nat} (hP : P ≤ 9) : spM P b K La S = fo (vS S P b K La) (gM P b K La S) (3 * P) 0 := by
  rw [spM]
  refine fo_cong (fun k x hv => ?_)
  unfold gM
  rw [dif_pos (lf_lt hP hv)]
def spL (P b law : Nat) (K La : Nat → Nat) (S : Nat) : Nat := if fb_ct (vS S P b K La) (3 * P) = 0 then law * 1000000 else fo (vS S P b K La) (fun no w => w + (1000000 - (if h : lf P K La S no < S then spL P b law K La (lf P K La S no) else 0))) (3 * P) 0 / fb_ct (vS S P b K La) (3 * P)
termination_by S
decreasing_by exact h
def gLk (P b law : Nat) (K La : Nat → Nat) (S no w : Nat) : Nat := w + (1000000 - spL P b law K La (lf P K La S no))
theorem spL_eq {P b law S : Nat} {K La : Nat → Nat} (hP : P ≤ 9) : spL P b law K La S = if fb_ct (vS S P b K La) (3 * P) = 0 then law * 1000000 else fo (vS S P b K La) (gLk P b law K La S) (3 * P) 0 / fb_ct (vS S P b K La) (3 * P) := by
  rw [spL]
  congr 2
  refine fo_cong (fun k x hv => ?_)
  unfold gLk
  rw [dif_pos (lf_lt hP hv)]
