def cand (P b : Nat) (K La : Nat → Nat) (no : Nat) : Bool := decide (no % 3 + 1 ≤ b) && canT P K La (no / 3) (no % 3 + 1)
def SLs (c : Nat → Bool) (size : Int32) (fi co ta : Nat → Int32) (q : Nat) : Prop := size = nI (fb_ct c q) ∧ ∀ no, no < q → c no = true → fi (fb_ct c no) = nI (no / 3) ∧ co (fb_ct c no) = nI (no % 3 + 1) ∧ ta (fb_ct c no) = nI (rn (no / 3) (no / 3 + no % 3))
theorem SLs.skip {c : Nat → Bool} {size : Int32} {fi co ta : Nat → Int32} {q : Nat} (h : SLs c size fi co ta q) (hc : c q = false) : SLs c size fi co ta (q + 1) := by
  have e : fb_ct c (q + 1) = fb_ct c q := by rw [fb_ct_succ, hc]; rfl
  refine ⟨by rw [e]; exact h.1, fun no h1 h2 => ?_⟩
  rcases Nat.eq_or_lt_of_le (Nat.le_of_lt_succ h1) with rfl | g
  · rw [hc] at h2; cases h2
  · exact h.2 no g h2
theorem SLs.more {c : Nat → Bool} {size : Int32} {fi co ta : Nat → Int32} {q : Nat} (h : SLs c size fi co ta q) : ∀ k, (∀ no, q ≤ no → no < q + k → c no = false) → SLs c size fi co ta (q + k)
  | 0, _ => h
  | k + 1, hc => (SLs.more h k (fun no h1 h2 => hc no h1 (by omega))).skip (hc (q + k) (by omega) (by omega))
theorem SLs.put {c : Nat → Bool} {size : Int32} {fi co ta : Nat → Int32} {q : Nat} (h : SLs c size fi co ta q) (hc : c q = true) : SLs c (nI (fb_ct c q + 1)) (upd fi (fb_ct c q) (nI (q / 3))) (upd co (fb_ct c q) (nI (q % 3 + 1))) (upd ta (fb_ct c q) (nI (rn (q / 3) (q / 3 + q % 3)))) (q + 1) := by
  have e : fb_ct c (q + 1) = fb_ct c q + 1 := by rw [fb_ct_succ, hc]; rfl
  refine ⟨by rw [e], fun no h1 h2 => ?_⟩
  rcases Nat.eq_or_lt_of_le (Nat.le_of_lt_succ h1) with rfl | g
  · exact ⟨pk_us, pk_us, pk_us⟩
  · have e2 : fb_ct c (no + 1) = fb_ct c no + 1 := by rw [fb_ct_succ, h2]; rfl
    have e3 := fb_ct_mono c (show no + 1 ≤ q by omega)
    have ne : fb_ct c no ≠ fb_ct c q := by omega
    rw [pk_un ne, pk_un ne, pk_un ne]
    exact h.2 no g h2
theorem add_ok {k p m N : Nat} {fi co ta : Nat → Int32} (hk : k < 27) (hp : p < 9) (hm1 : 1 ≤ m) (hm : m ≤ 3) : f_X6_add N (nI k) fi co ta (nI p) (nI m) = some (nI (k + 1), upd fi k (nI p), upd co k (nI m), upd ta k (nI (rn p (p + m - 1)))) := by
  unfold f_X6_add f_X7_bits
  rw [if_pos (show nI k < (27 : Int32) from nI_lt (b := 27) hk (by omega)), gd_i hk (by omega), gd_i hk (by omega), ob1_s, gd_i hk (by omega), nI_clamp (by omega), nI_1, run0 p hp m (by omega) hm1]
theorem listFor_in {P b p N : Nat} {K La : Nat → Nat} {kinds laneOf : Nat → Int32} (hN : N = 1000) (hG : GWf P K La kinds laneOf) (hb : b ≤ 3) (hp : p < P) (kk : Int32 → (Nat → Int32) → (Nat → Int32) → (Nat → Int32) → Option (Int32 × Int32 × Int32 × (Nat → Int32) × (Nat → Int32) × (Nat → Int32))) :
    ∀ (d n m : Nat) (size : Int32) (fi co ta : Nat → Int32), 1 ≤ m → m + d = b + 1 → d < n → SLs (cand P b K La) size fi co ta (3 * p + (m - 1)) → ∃ (size' : Int32) (fi' co' ta' : Nat → Int32), SLs (cand P b K La) size' fi' co' ta' (3 * p + b) ∧ f_X6_listFor_L27 N (nI p) (nI P) (nI b) laneOf kinds kk n (nI m) size fi co ta = kk size' fi' co' ta' := by
  subst hN
  have hP := hG.1
  intro d
  induction d with
  | zero =>
    intro n m size fi co ta h0 h1 h2 h3
    obtain ⟨n, rfl⟩ : ∃ k, n = k + 1 := ⟨n - 1, by omega⟩
    refine ⟨size, fi, co, ta, by rw [show 3 * p + b = 3 * p + (m - 1) by omega]; exact h3, ?_⟩
    rw [f_X6_listFor_L27, if_pos (nI_lt (by omega) (by omega))]
  | succ d ih =>
    intro n m size fi co ta h0 h1 h2 h3
    obtain ⟨n, rfl⟩ : ∃ k, n = k + 1 := ⟨n - 1, by omega⟩
    have q1 : (3 * p + (m - 1)) / 3 = p := by omega
    have q2 : (3 * p + (m - 1)) % 3 = m - 1 := by omega
    have hcand : cand P b K La (3 * p + (m - 1)) = canT P K La p m := by
      unfold cand
      rw [q1, q2, show m - 1 + 1 = m by omega, decide_eq_true (show m ≤ b by omega), Bool.true_and]
    rw [f_X6_listFor_L27, if_neg (nI_nlt (by omega) (by omega)), canBeTaken_ok hG (by omega) h0 (by omega), ob1_s]
    simp only [jm_s]
    rw [nI_1]
    by_cases hc : canT P K La p m = true
    · rw [if_pos hc, if_neg (by decide)]
      have hs := h3.1
      have hk := fb_ct_le (cand P b K La) (3 * p + (m - 1))
      subst hs
      rw [add_ok (by omega) (by omega) h0 (by omega), ob4_s]
      have := h3.put (hcand.trans hc)
      rw [q1, q2, show m - 1 + 1 = m by omega, show p + (m - 1) = p + m - 1 by omega, show 3 * p + (m - 1) + 1 = 3 * p + (m + 1 - 1) by omega] at this
      exact ih n (m + 1) _ _ _ _ (by omega) (by omega) (by omega) this
    · rw [if_neg hc, if_pos (show nI 0 = (0 : Int32) from rfl)]
      have := h3.skip (hcand.trans (by rw [Bool.not_eq_true] at hc; exact hc))
      rw [show 3 * p + (m - 1) + 1 = 3 * p + (m + 1 - 1) by omega] at this
      exact ih n (m + 1) _ _ _ _ (by omega) (by omega) (by omega) this
def trB (g : Nat → Bool) : Nat → Nat
  | 0 => 0
  | p + 1 => trB g p ||| (if g p = true then 2 ^ p else 0)
theorem trB_bit (g : Nat → Bool) (i : Nat) : ∀ p, (trB g p).testBit i = (decide (i < p) && g i)
  | 0 => by simp [trB]
  | p + 1 => by
    rw [trB, Nat.testBit_or, trB_bit g i p, tb_if, Nat.testBit_two_pow]
    by_cases h : p = i
    · subst h; simp
    · have : decide (p = i) = false := decide_eq_false h
      rw [this, Bool.and_false, Bool.or_false]
      congr 1
      by_cases h2 : i < p
      · rw [decide_eq_true h2, decide_eq_true (by omega)]
      · rw [decide_eq_false h2, decide_eq_false (by omega)]
theorem trB_lt (g : Nat → Bool) {p : Nat} (hp : p ≤ 9) : trB g p < 512 := lt512 fun i hi => by rw [trB_bit, decide_eq_false (by omega), Bool.false_and]
theorem listFor_out {P b N : Nat} {K La : Nat → Nat} {kinds laneOf : Nat → Int32} (hN : N = 1000) (hG : GWf P K La kinds laneOf) (hb : b ≤ 3) :
    ∀ (d n p : Nat) (size : Int32) (fi co ta : Nat → Int32), p + d = P → d < n → SLs (cand P b K La) size fi co ta (3 * p) → ∃ (size' : Int32) (fi' co' ta' : Nat → Int32), SLs (cand P b K La) size' fi' co' ta' (3 * P) ∧ f_X6_listFor_L17 N (nI P) (nI b) laneOf kinds n (nI p) size (nI (trB (gR P K La) p)) (nI (trB (gL P K La) p)) fi co ta = some (size', nI (trB (gR P K La) P), nI (trB (gL P K La) P), fi', co', ta') := by
  have hP := hG.1
  intro d
  induction d with
  | zero =>
    intro n p size fi co ta h1 h2 h3
    obtain ⟨n, rfl⟩ : ∃ k, n = k + 1 := ⟨n - 1, by omega⟩
    obtain rfl : p = P := by omega
    refine ⟨size, fi, co, ta, h3, ?_⟩
    rw [f_X6_listFor_L17, if_pos (nI_le (Nat.le_refl p) (by omega))]
  | succ d ih =>
    intro n p size fi co ta h1 h2 h3
    obtain ⟨n, rfl⟩ : ∃ k, n = k + 1 := ⟨n - 1, by omega⟩
    rw [f_X6_listFor_L17, if_neg (nI_ge (by omega) (by omega))]
    obtain ⟨s1, f1, c1, t1, hl, he⟩ := listFor_in hN hG hb (show p < P by omega) (fun a11 a12 a13 a14 => ob1 (f_X1_takesAlong N (nI P) laneOf kinds (nI p) (nI p + (1 : Int32))) (fun a15 => jm (fun (a16 : Int32) => ob1 (f_X1_takesAlong N (nI P) laneOf kinds (nI p) (nI p - (1 : Int32))) (fun a18 => jm (fun (a19 : Int32) => f_X6_listFor_L17 N (nI P) (nI b) laneOf kinds n (nI p + (1 : Int32)) a11 (nI (trB (gR P K La) p) ||| a16) (nI (trB (gL P K La) p) ||| a19) a12 a13 a14) (fun j20 => if a18 = (0 : Int32) then (j20 (0 : Int32)) else (j20 ((1 : Int32) <<< (nI p &&& 31)))))) (fun j17 => if a15 = (0 : Int32) then (j17 (0 : Int32)) else (j17 ((1 : Int32) <<< (nI p &&& 31)))))) b N 1 size fi co ta (Nat.le_refl 1) (by omega) (by omega) (by simpa using h3)
    rw [show (1 : Int32) = nI 1 from rfl] at he ⊢
    rw [he]
    simp only [jm_s]
    have l1 : SLs (cand P b K La) s1 f1 c1 t1 (3 * (p + 1)) := by
      rw [show 3 * (p + 1) = 3 * p + b + (3 - b) by omega]
      refine hl.more (3 - b) (fun no h1 h2 => ?_)
      unfold cand
      rw [decide_eq_false (by omega), Bool.false_and]
    have e1 : nI p + nI 1 = nI (p + 1) := nI_add p 1
    rw [e1, takesR_ok hG (by omega), ob1_s, show nI p - nI 1 = nI p - 1 from rfl, takesL_ok hG (by omega), show nI 1 <<< (nI p &&& 31) = nI (2 ^ p) from sh1 p (by omega)]
    obtain ⟨s2, f2, c2, t2, hl2, he2⟩ := ih n (p + 1) s1 f1 c1 t1 (by omega) (by omega) l1
    refine ⟨s2, f2, c2, t2, hl2, ?_⟩
    rw [← he2]
    have z : ∀ x : Nat, nI x ||| (0 : Int32) = nI (x ||| 0) := fun x => fa_or x 0
    rw [trB, trB]
    by_cases g1 : gR P K La p = true
    · rw [if_neg (fun h => (b01 _).mp h g1), ob1_s, if_pos g1, fa_or]
      by_cases g2 : gL P K La p = true
      · rw [if_neg (fun h => (b01 _).mp h g2), if_pos g2, fa_or]
      · rw [if_pos ((b01 _).mpr g2), if_neg g2, z]
    · rw [if_pos ((b01 _).mpr g1), ob1_s, if_neg g1, z]
      by_cases g2 : gL P K La p = true
      · rw [if_neg (fun h => (b01 _).mp h g2), if_pos g2, fa_or]
      · rw [if_pos ((b01 _).mpr g2), if_neg g2, z]
/-- the class's list, as the green has it -/
def StrR (P b : Nat) (K La : Nat → Nat) (size tr tl : Int32) (fi co ta : Nat → Int32) : Prop := SLs (cand P b K La) size fi co ta (3 * P) ∧ tr = nI (trB (gR P K La) P) ∧ tl = nI (trB (gL P K La) P)
theorem listFor_ok {P b : Nat} {K La : Nat → Nat} {kinds laneOf : Nat → Int32} (hG : GWf P K La kinds laneOf) (hb : b ≤ 3) (fi co ta : Nat → Int32) : ∃ (size tr tl : Int32) (fi' co' ta' : Nat → Int32), f_X6_listFor 1000 (nI P) (nI b) laneOf kinds fi co ta = some (size, tr, tl, fi', co', ta') ∧ StrR P b K La size tr tl fi' co' ta' := by
  obtain ⟨s2, f2, c2, t2, hl2, he2⟩ := listFor_out (N := 1000) rfl hG hb P 1000 0 0 fi co ta (by omega) (by have := hG.1; omega) ⟨rfl, fun no h => absurd h (by omega)⟩
  exact ⟨s2, _, _, f2, c2, t2, he2, hl2, rfl, rfl⟩
