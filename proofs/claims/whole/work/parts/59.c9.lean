/-! see, count, image, restore -/
theorem in31 (x : Int32) : (x ≤ 3) ↔ ¬ 3 < x := by
  rw [fa_le, fa_lt]
  omega
theorem k_see {P : Nat} (hP : P ≤ 9) {zs zm : Int32} {pins ways fell sights : Nat → Int32} (h : SeenR zs pins ways fell zm sights) (x1 x2 x3 : Int32) :
    ∃ (a0 a1 : Int32) (a2 a3 a4 : Nat → Int32) (b1 : Int32) (b2 : Nat → Int32), SeenR a1 a2 a3 a4 b1 b2 ∧ f_X7_see 1000 (nI P) zs pins ways fell x1 x2 x3 = some (a0, a1, a2, a3, a4) ∧ f_X8_see 1000 (nI P) zm sights x1 x2 x3 = some (a0, b1, b2) := by
  have h' := h
  obtain ⟨z, z1, rfl, rfl, z4⟩ := h
  unfold f_X7_see f_X8_see
  rw [hasPin_x, ob1_s, isPin_ok hP, ob1_s]
  by_cases hx : x1 < 0 ∨ nI P ≤ x1
  · rw [if_pos hx, if_pos rfl, if_pos rfl]
    exact ⟨_, _, _, _, _, _, _, h', rfl, rfl⟩
  rw [if_neg hx, if_neg n10, if_neg n10, in01, ob1_s]
  by_cases h2 : x2 < 0
  · rw [if_pos h2, if_pos (Or.inl h2), if_pos rfl]
    exact ⟨_, _, _, _, _, _, _, h', rfl, rfl⟩
  by_cases h3 : 1 < x2
  · rw [if_neg h2, if_pos h3, if_pos (Or.inr h3), if_pos rfl]
    exact ⟨_, _, _, _, _, _, _, h', rfl, rfl⟩
  rw [if_neg h2, if_neg h3, if_neg (show ¬ (x2 < 0 ∨ 1 < x2) from fun g => g.elim h2 h3), if_neg n10, in03, ob1_s]
  by_cases h4 : x3 < 0
  · rw [if_pos h4, if_pos (Or.inl h4), if_pos rfl]
    exact ⟨_, _, _, _, _, _, _, h', rfl, rfl⟩
  by_cases h5 : 3 < x3
  · rw [if_neg h4, if_neg (fun g => (in31 x3).mp g h5), if_pos (Or.inr h5), if_pos rfl]
    exact ⟨_, _, _, _, _, _, _, h', rfl, rfl⟩
  rw [if_neg h4, if_pos ((in31 x3).mpr h5), if_neg (show ¬ (x3 < 0 ∨ 3 < x3) from fun g => g.elim h4 h5), if_neg n10]
  obtain ⟨p, hp, rfl⟩ := pin_x hP hx
  obtain ⟨w, hw, rfl⟩ := upto (x := x2) (M := 1) (n := 1) rfl (fun g => g.elim h2 h3)
  obtain ⟨f, hf, rfl⟩ := upto (x := x3) (M := 3) (n := 3) rfl (fun g => g.elim h4 h5)
  by_cases e6 : z = 6
  · subst e6
    rw [if_neg (show ¬ nI 6 < (6 : Int32) by decide), if_pos (show nI 6 = (6 : Int32) from rfl)]
    exact ⟨_, _, _, _, _, _, _, h', rfl, rfl⟩
  have hz : nI z < (6 : Int32) := nI_lt (b := 6) (by omega) (by omega)
  unfold f_X5_add
  rw [if_pos hz, if_pos hz, if_neg (show ¬ nI z = (6 : Int32) from fun e => e6 ((nI_eq (b := 6) (by omega) (by omega)).mp e)), gd_i (by omega) (by omega), gd_i (by omega) (by omega), gd_i (by omega) (by omega), ob4_s, nI_clamp (by omega), nI_1, mul3, show nI (3 * z) + 1 = nI (3 * z + 1) from nI_add _ _, show nI (3 * z) + 2 = nI (3 * z + 2) from nI_add _ _, gd_i (by omega) (by omega), gd_i (by omega) (by omega), gd_i (by omega) (by omega), nI_clamp (by omega), nI_clamp (by omega), nI_clamp (by omega)]
  refine ⟨_, _, _, _, _, _, _, ⟨z + 1, by omega, rfl, rfl, fun i hi => ?_⟩, rfl, rfl⟩
  rcases Nat.eq_or_lt_of_le (Nat.le_of_lt_succ hi) with e | e
  · subst e
    exact ⟨p, w, f, by omega, hw, hf, pk_us, pk_us, pk_us, by rw [pk_un (by omega), pk_un (by omega), pk_us], by rw [pk_un (by omega), pk_us], pk_us⟩
  · obtain ⟨p', w', f', g1, g2, g3, g4, g5, g6, g7, g8, g9⟩ := z4 i e
    exact ⟨p', w', f', g1, g2, g3, by rw [pk_un (by omega), g4], by rw [pk_un (by omega), g5], by rw [pk_un (by omega), g6], by rw [pk_un (by omega), pk_un (by omega), pk_un (by omega), g7], by rw [pk_un (by omega), pk_un (by omega), pk_un (by omega), g8], by rw [pk_un (by omega), pk_un (by omega), pk_un (by omega), g9]⟩
/-- what is counted -/
def cnV (P Ln b law st S : Nat) (K La : Nat → Nat) (z le re : Int32) (x : Int32) : Int32 := if x = 0 then nI P else if x = 1 then nI Ln else if x = 2 then nI (pc9 S) else if x = 3 then nI b else if x = 4 then nI law else if x = 5 then nI (fb_ct (vS S P b K La) (3 * P)) else if x = 6 then nI st else if x = 7 then z else if x = 8 then le else if x = 9 then re else -102
theorem cCnt_ok {P Ln b law st S : Nat} {K La : Nat → Nat} {size tr tl : Int32} {fi co ta : Nat → Int32} (hP : P ≤ 9) (hmo : mono P La) (hb : b ≤ 3) (hS : S < 512) (hR : StrR P b K La size tr tl fi co ta) (z le re x : Int32) : f_X7_count 1000 le re (nI P) (nI Ln) (nI b) (nI law) (nI S) (nI st) z size ta x = some (cnV P Ln b law st S K La z le re x) := by
  unfold f_X7_count cnV
  rw [bitCount_ok _ hS, ob1_s, howMany_ok hP hmo hR hb, ob1_s]
  simp only [apply_ite some]
theorem mCnt_ok {P Ln b law st S : Nat} {K La : Nat → Nat} {kinds laneOf : Nat → Int32} (hG : GWf P K La kinds laneOf) (hb : b ≤ 3) (hS : S < 512) (z le re x : Int32) : f_X8_countOf 1000 le (nI P) (nI Ln) (nI S) (nI b) (nI law) (nI st) re z laneOf kinds x = some (cnV P Ln b law st S K La z le re x) := by
  unfold f_X8_countOf cnV
  rw [ones_ok _ hS, ob1_s, strikesOf_ok hG hb hS, ob1_s]
  simp only [apply_ite some]
theorem cp0 {f g : Nat → Int32} {n j : Nat} (h : j < n) : va_cpy f g 0 0 n j = f j := by
  rw [pk_cpy_in (Nat.zero_le j) (by omega), Nat.zero_add, Nat.sub_zero]
theorem copy_L {n0 : Nat} (hn : n0 < 100) (r0 : Nat → Int32) : ∀ (d n i : Nat) (r1 : Nat → Int32), i + d = n0 → d < n → (∀ j, j < i → r1 j = r0 j) → ∃ r', f_X8_copy_L2 1000 n0 n0 r0 n (nI i) r1 = some r' ∧ ∀ j, j < n0 → r' j = r0 j := by
  intro d
  induction d with
  | zero =>
    intro n i r1 g1 g2 g3
    obtain ⟨n, rfl⟩ : ∃ k, n = k + 1 := ⟨n - 1, by omega⟩
    obtain rfl : i = n0 := by omega
    exact ⟨r1, by rw [f_X8_copy_L2, if_pos (show Int32.ofNat i ≤ nI i from nI_le (Nat.le_refl i) (by omega))], g3⟩
  | succ d ih =>
    intro n i r1 g1 g2 g3
    obtain ⟨n, rfl⟩ : ∃ k, n = k + 1 := ⟨n - 1, by omega⟩
    rw [f_X8_copy_L2, if_neg (show ¬ Int32.ofNat n0 ≤ nI i from nI_ge (b := n0) (by omega) (by omega)), gd_i (by omega) (by omega), gd_i (by omega) (by omega), nI_1, nI_clamp (by omega)]
    refine ih n (i + 1) _ (by omega) (by omega) (fun j hj => ?_)
    by_cases e : j = i
    · subst e; exact pk_us
    · rw [pk_un (by omega)]; exact g3 j (by omega)
theorem copy_ok {n0 : Nat} (hn : n0 < 100) (r0 r1 : Nat → Int32) : ∃ r', f_X8_copy 1000 n0 n0 r0 r1 = some r' ∧ ∀ j, j < n0 → r' j = r0 j := copy_L hn r0 n0 1000 0 r1 (by omega) (by omega) (fun j hj => absurd hj (Nat.not_lt_zero j))
theorem GWf.cong {P : Nat} {K La : Nat → Nat} {kinds laneOf kinds' laneOf' : Nat → Int32} (h : GWf P K La kinds laneOf) (h1 : ∀ i, i < 9 → kinds' i = kinds i) (h2 : ∀ i, i < 9 → laneOf' i = laneOf i) : GWf P K La kinds' laneOf' := by
  refine ⟨h.1, fun i hi => ?_⟩
  have := h.1
  rw [h1 i (by omega), h2 i (by omega)]
  exact h.2 i hi
theorem SeenR.cong {size many : Int32} {pins ways fell sights pins' ways' fell' sights' : Nat → Int32} (h : SeenR size pins ways fell many sights) (h1 : ∀ i, i < 6 → pins' i = pins i) (h2 : ∀ i, i < 6 → ways' i = ways i) (h3 : ∀ i, i < 6 → fell' i = fell i) (h4 : ∀ i, i < 18 → sights' i = sights i) : SeenR size pins' ways' fell' many sights' := by
  obtain ⟨z, z1, z2, z3, z4⟩ := h
  refine ⟨z, z1, z2, z3, fun i hi => ?_⟩
  rw [h1 i (by omega), h2 i (by omega), h3 i (by omega), h4 (3 * i) (by omega), h4 (3 * i + 1) (by omega), h4 (3 * i + 2) (by omega)]
  exact z4 i hi
theorem NowR.cpy {P Ln b law S st : Nat} {K La F Le : Nat → Nat} {pins lanes ball lw standing struck : Int32} {kinds laneOf firsts lengths : Nat → Int32} (hP : P ≤ 9) (hL : Ln ≤ 3) (h : NowR P Ln b law S st K La F Le pins lanes ball lw standing struck kinds laneOf firsts lengths) (k2 l2 f2 e2 : Nat → Int32) : NowR P Ln b law S st K La F Le pins lanes ball lw standing struck (va_cpy kinds k2 0 0 9) (va_cpy laneOf l2 0 0 9) (va_cpy firsts f2 0 0 3) (va_cpy lengths e2 0 0 3) := by
  obtain ⟨n1, n2, n3, n4, n5, n6, n7, n8⟩ := h
  refine ⟨n1, n2, n3, n4, n5, n6, n7.cong (fun i hi => cp0 hi) (fun i hi => cp0 hi), fun l hl => ?_⟩
  rw [cp0 (by omega), cp0 (by omega)]
  exact n8 l hl
theorem k_image {P Ln b law S st : Nat} {K La F Le : Nat → Nat} {pins lanes ball lw standing struck zs zm mp ml ms mm mw mt : Int32} {kinds laneOf firsts lengths sp sw sf sg mk mo : Nat → Int32} {iK kp kl kb kw kst ksk kz read kg kS kM kL kT kZ : Int32} {kk ko kf ke kps kws kfs kK kSi : Nat → Int32} (hW : WFg P Ln b law S st La F Le) (hN : NowR P Ln b law S st K La F Le pins lanes ball lw standing struck kinds laneOf firsts lengths) (hM : ModR P Ln b law S st K La mp ml ms mm mw mt mk mo) (hSe : SeenR zs sp sw sf zm sg) (hKp : KeptR P Ln La F Le iK kp kl kb kw kst ksk kk ko kf ke kz kps kws kfs read kg kS kM kL kT kZ kK kSi) :
    ∃ (a0 a1 a2 a3 a4 a5 a6 a7 : Int32) (a8 a9 a10 a11 : Nat → Int32) (a12 : Int32) (a13 a14 a15 : Nat → Int32) (b1 b2 b3 b4 b5 b6 : Int32) (b7 b8 : Nat → Int32), f_X7_image 1000 iK pins lanes ball lw standing struck kp kl kb kw kst ksk kinds kk laneOf ko firsts kf lengths ke kz zs sp kps sw kws sf kfs = some (a0, a1, a2, a3, a4, a5, a6, a7, a8, a9, a10, a11, a12, a13, a14, a15) ∧ f_X8_image 1000 mp ms mm mw mt read zm kg kS kM kL kT kZ mk kK sg kSi = some (a0, b1, b2, b3, b4, b5, b6, b7, b8) ∧ KeptR P Ln La F Le a1 a2 a3 a4 a5 a6 a7 a8 a9 a10 a11 a12 a13 a14 a15 read b1 b2 b3 b4 b5 b6 b7 b8 ∧ (b1 = kg ∨ b1 = read) := by
  have hN' := hN
  obtain ⟨n1, n2, n3, n4, n5, n6, n7, n8⟩ := hN
  obtain ⟨m1, m2, m3, m4, m5, m6, m7⟩ := hM
  have w1 := hW.1
  have w2 := hW.2.1
  subst n1 m1
  unfold f_X7_image f_X8_image
  rw [hasGreen_ok w1, ob1_s, lacks_ok w1, ob1_s]
  by_cases e : P = 0
  · rw [if_pos e, if_pos rfl, if_pos e, if_neg n10]
    exact ⟨_, _, _, _, _, _, _, _, _, _, _, _, _, _, _, _, _, _, _, _, _, _, _, _, rfl, rfl, hKp, Or.inl rfl⟩
  · obtain ⟨r1, q1, q2⟩ := copy_ok (show 9 < 100 by omega) mk kK
    obtain ⟨r2, q3, q4⟩ := copy_ok (show 18 < 100 by omega) sg kSi
    unfold f_X1_copyFrom f_X5_copyFrom
    rw [if_neg e, if_neg n10, if_neg e, if_pos rfl, q1, ob1_s, q3, ob1_s, ob4_s, ob14_s]
    refine ⟨struck, 1, nI P, lanes, ball, lw, standing, struck, _, _, _, _, zs, _, _, _, read, ms, mm, mw, mt, zm, r1, r2, rfl, by rw [m6, n6], Or.inr ⟨rfl, rfl, by omega, b, law, S, st, K, hW, hN'.cpy w1 w2 _ _ _ _, m3, m4, m5, m6, fun i hi => ?_, hSe.cong (fun i hi => cp0 hi) (fun i hi => cp0 hi) (fun i hi => cp0 hi) q4⟩, Or.inr rfl⟩
    rw [q2 i (by omega)]
    exact (m7.2 i hi).1
theorem k_restore {P Ln b law S st : Nat} {K La F Le : Nat → Nat} {pins lanes ball lw standing struck zs zm mp ml ms mm mw mt old sz tr tl : Int32} {kinds laneOf firsts lengths sp sw sf sg mk mo fi co ta nu wi fe mo' li : Nat → Int32} {iK kp kl kb kw kst ksk kz read kg kS kM kL kT kZ : Int32} {kk ko kf ke kps kws kfs kK kSi : Nat → Int32} (hW : WFg P Ln b law S st La F Le) (hN : NowR P Ln b law S st K La F Le pins lanes ball lw standing struck kinds laneOf firsts lengths) (hM : ModR P Ln b law S st K La mp ml ms mm mw mt mk mo) (hSe : SeenR zs sp sw sf zm sg) (hSt : StrR P b K La sz tr tl fi co ta) (hO : OutR P b law K La old nu wi fe mo' li) (hKp : KeptR P Ln La F Le iK kp kl kb kw kst ksk kk ko kf ke kz kps kws kfs read kg kS kM kL kT kZ kK kSi) :
    ∃ (a0 a1 a2 a3 a4 a5 a6 a7 : Int32) (a8 a9 a10 a11 : Nat → Int32) (a12 : Int32) (a13 a14 a15 : Nat → Int32) (a16 a17 a18 : Int32) (a19 a20 a21 : Nat → Int32) (b1 b2 b3 b4 b5 : Int32) (b6 b7 : Nat → Int32), f_X7_restore 1000 iK old pins lanes ball lw standing struck kp kl kb kw kst ksk kk kinds ko laneOf kf firsts ke lengths zs kz kps sp kws sw kfs sf sz tr tl fi co ta = some (a0, a1, a2, a3, a4, a5, a6, a7, a8, a9, a10, a11, a12, a13, a14, a15, a16, a17, a18, a19, a20, a21) ∧ f_X8_restore 1000 ms mm mw mt read zm kg kS kM kL kT kZ kK mk kSi sg = some (a0, b1, b2, b3, b4, b5, b6, b7) ∧
      ∃ (b' law' S' st' : Nat) (K' : Nat → Nat), WFg P Ln b' law' S' st' La F Le ∧ NowR P Ln b' law' S' st' K' La F Le a2 a3 a4 a5 a6 a7 a8 a9 a10 a11 ∧ ModR P Ln b' law' S' st' K' La mp ml b1 b2 b3 b4 b6 mo ∧ SeenR a12 a13 a14 a15 b5 b7 ∧ StrR P b' K' La a16 a17 a18 a19 a20 a21 ∧ OutR P b' law' K' La a1 nu wi fe mo' li := by
  unfold f_X7_restore f_X8_restore
  rcases hKp with ⟨h1, h2⟩ | ⟨h1, h2, h0, b', law', S', st', K', k1, k2, k3, k4, k5, k6, k7, k8⟩
  · rw [if_pos h1, if_neg h2]
    exact ⟨_, _, _, _, _, _, _, _, _, _, _, _, _, _, _, _, _, _, _, _, _, _, _, _, _, _, _, _, _, rfl, rfl, b, law, S, st, K, hW, hN, hM, hSe, hSt, hO⟩
  · obtain ⟨m1, m2, m3, m4, m5, m6, m7⟩ := hM
    have w1 := hW.1
    have w2 := hW.2.1
    have hN2 := k2.cpy w1 w2 kinds laneOf firsts lengths
    obtain ⟨n1, n2, n3, n4, n5, n6, n7, n8⟩ := hN2
    obtain ⟨r1, q1, q2⟩ := copy_ok (show 9 < 100 by omega) kK mk
    obtain ⟨r2, q3, q4⟩ := copy_ok (show 18 < 100 by omega) kSi sg
    obtain ⟨s1, s2, s3, s4, s5, s6, q5, q6⟩ := strikesChanged_ok n7 k1.2.2.1 fi co ta
    subst n1 n3
    unfold f_X1_copyFrom f_X5_copyFrom
    rw [if_neg (show ¬ iK = 0 by rw [h1]; decide), if_pos h2, q1, ob1_s, q3, ob1_s, ob4_s, ob14_s, q5, ob7_s]
    refine ⟨_, _, _, _, _, _, _, _, _, _, _, _, _, _, _, _, _, _, _, _, _, _, _, _, _, _, _, _, _, rfl, by rw [k6, n6], b', law', S', st', K', k1, ⟨rfl, n2, rfl, n4, n5, n6, n7, n8⟩, ⟨m1, m2, k3, k4, k5, k6, ?_⟩, k8.cong (fun i hi => cp0 hi) (fun i hi => cp0 hi) (fun i hi => cp0 hi) q4, q6, Or.inr rfl, fun e => absurd e (by decide)⟩
    refine ⟨w1, fun i hi => ?_⟩
    obtain ⟨g1, g2, g3, g4⟩ := m7.2 i hi
    exact ⟨by rw [q2 i (by omega), k7 i hi], (n7.2 i hi).2.1, g3, g4⟩
