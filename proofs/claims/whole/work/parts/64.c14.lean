theorem nI_sub_eq {a k : Nat} (h : k ≤ a) : nI a - nI k = nI (a - k) := pk_sub h
set_option maxRecDepth 100000 in
theorem be3 : ∀ g, g < 4 → (nI g - 1 = (2 : Int32) ↔ g = 3) := by decide +kernel
theorem WFg.mk {P Ln b lw : Nat} {La F Le : Nat → Nat} (hP : P ≤ 9) (h1 : 1 ≤ Ln) (h3 : Ln ≤ 3) (hS : Shp P Ln La F Le) (he : 1 ≤ Le (Ln - 1)) (hb1 : 1 ≤ b) (hb : b ≤ 3) (hl : lw ≤ 1) : WFg P Ln b lw (2 ^ P - 1) 0 La F Le := by
  obtain ⟨s1, s2, s3, s4, s5, s6⟩ := hS
  have hp : 0 < 2 ^ P := Nat.two_pow_pos P
  refine ⟨hP, h3, hb, hl, by omega, by omega, s1, fun e => absurd e (by omega), fun _ => ⟨hb1, h1⟩, fun l hl => ⟨(s2 l hl).1, ?_, (s2 l hl).2⟩, s5, s6⟩
  by_cases e : l = Ln - 1
  · subst e; exact he
  · exact s3 l (by omega)
theorem k_green {P Ln b law S st : Nat} {K La F Le : Nat → Nat} {le ma : Int32} {pg mp : Nat → Int32} (hPg : PageR le pg ma mp) {read iK old rb rl rstd rst rz : Int32} {rfs rls rks rlo rsp rsw rsf rk ro : Nat → Int32} (hRd : rst = 0 ∧ rz = 0) {pins lanes ball lw standing struck zs zm mpi mla ms mm mw mt sz tr tl mrd : Int32} {kinds laneOf firsts lengths sp sw sf sg mk mo fi co ta nu wi fe mo' li : Nat → Int32} {kp kl kb kw kst ksk kz kg kS kM kL kT kZ : Int32} {kk ko kf ke kps kws kfs kK kSi : Nat → Int32} {c : Nat} (hc : c < 512)
    (hW : WFg P Ln b law S st La F Le) (hN : NowR P Ln b law S st K La F Le pins lanes ball lw standing struck kinds laneOf firsts lengths) (hM : ModR P Ln b law S st K La mpi mla ms mm mw mt mk mo) (hSe : SeenR zs sp sw sf zm sg) (hSt : StrR P b K La sz tr tl fi co ta) (hO : OutR P b law K La old nu wi fe mo' li) (hKp : KeptR P Ln La F Le iK kp kl kb kw kst ksk kk ko kf ke kz kps kws kfs mrd kg kS kM kL kT kZ kK kSi) (hC : CntR c read mrd kg) :
    ∃ (a0 a1 a2 a3 a4 a5 a6 a7 a8 a9 : Int32) (a10 a11 a12 a13 : Nat → Int32) (a14 a15 a16 a17 a18 a19 : Int32) (a20 a21 a22 a23 : Nat → Int32) (a24 : Int32) (a25 a26 a27 : Nat → Int32) (a28 a29 a30 : Int32) (a31 a32 a33 : Nat → Int32) (b1 b2 b3 b4 b5 b6 b7 b8 b9 b10 b11 b12 b13 : Int32) (b14 b15 b16 b17 : Nat → Int32),
      f_X7_green 1000 le read iK old rb rl rstd rst rfs rls pg rks rlo pins lanes ball lw standing struck kinds laneOf firsts lengths zs rz rsp sp rsw sw rsf sf sz tr tl fi co ta = some (a0, a1, a2, a3, a4, a5, a6, a7, a8, a9, a10, a11, a12, a13, a14, a15, a16, a17, a18, a19, a20, a21, a22, a23, a24, a25, a26, a27, a28, a29, a30, a31, a32, a33) ∧
      f_X8_green 1000 ma mpi mla ms mm mw mt mrd zm mp rk ro mk mo = some (a0, b1, b2, b3, b4, b5, b6, b7, b8, b9, b10, b11, b12, b13, b14, b15, b16, b17) ∧
      ∃ (P Ln b law S st : Nat) (K La F Le : Nat → Nat), PageR a1 pg b1 mp ∧ WFg P Ln b law S st La F Le ∧ NowR P Ln b law S st K La F Le a14 a15 a16 a17 a18 a19 a20 a21 a22 a23 ∧ ModR P Ln b law S st K La b6 b7 b8 b9 b10 b11 b16 b17 ∧ SeenR a24 a25 a26 a27 b13 sg ∧ StrR P b K La a28 a29 a30 a31 a32 a33 ∧ OutR P b law K La a4 nu wi fe mo' li ∧ KeptR P Ln La F Le a3 kp kl kb kw kst ksk kk ko kf ke kz kps kws kfs b12 kg kS kM kL kT kZ kK kSi ∧ CntR (c + 1) a2 b12 kg := by
  have hPg' := hPg
  obtain ⟨rfl, n, hn, rfl, hpg⟩ := hPg
  obtain ⟨r1, r2⟩ := hRd
  obtain ⟨j, a1, a2, a3, a4, a5, a6, a7, a8, a9, b1, b2, b3, b4, b5, b6, q1, q2, q3⟩ := read_ok hn hpg rb rl rfs rls rks rlo rk ro
  unfold f_X7_green f_X8_green
  rw [q1, q2, ob10_s, ob7_s]
  by_cases hj : j < n
  · rw [if_pos (nI_lt hj (by omega)), if_pos (nI_lt hj (by omega))]
    exact ⟨_, _, _, _, _, _, _, _, _, _, _, _, _, _, _, _, _, _, _, _, _, _, _, _, _, _, _, _, _, _, _, _, _, _, _, _, _, _, _, _, _, _, _, _, _, _, _, _, _, _, _, rfl, rfl, P, Ln, b, law, S, st, K, La, F, Le, hPg', hW, hN, hM, hSe, hSt, hO, hKp, hC.up⟩
  obtain ⟨rfl, g, P', Ln', b', lw', K', La', F', Le', hA⟩ := q3.resolve_left hj
  obtain ⟨g3, rfl, rfl, hB, e1, e2, e3⟩ := hA
  rw [if_neg (nI_nlt (Nat.le_refl j) (by omega)), if_neg (nI_nlt (Nat.le_refl j) (by omega))]
  unfold f_X3_isWhole
  by_cases eg : g = 3
  · subst eg
    obtain ⟨hP, h1, h3, rfl, rfl, rfl, rfl, rfl, hS, hA, hK⟩ := hB
    obtain ⟨f1, f2, rfl, f4, f5⟩ := e2 (by omega)
    obtain ⟨f6, rfl, f7⟩ := e3 rfl
    have he := e1 (by omega)
    have hG : GWf P' K' La' a8 a9 := ⟨hP, fun i hi => by
      obtain ⟨x1, x2, x3, x4, x5⟩ := hK i hi
      have := (hS.2.2.2.2.1 i hi).1
      exact ⟨x1, x2, x3, by omega⟩⟩
    have hG8 : GWf P' K' La' b5 b6 := ⟨hP, fun i hi => by
      obtain ⟨x1, x2, x3, x4, x5⟩ := hK i hi
      have := (hS.2.2.2.2.1 i hi).1
      exact ⟨x4, x2, x5, by omega⟩⟩
    have hWg := WFg.mk hP h1 h3 hS he f1 f2 f6
    have hNw : NowR P' Ln' b' lw' (2 ^ P' - 1) 0 K' La' F' Le' (nI P') (nI Ln') (nI b') (nI lw') (nI (2 ^ P' - 1)) (nI 0) a8 a9 a6 a7 := ⟨rfl, rfl, rfl, rfl, rfl, rfl, hG, hA⟩
    obtain ⟨c1, c2, c3, c4, c5, c6, c7, c8⟩ := hNw.cpy hP h3 kinds laneOf firsts lengths
    obtain ⟨s1, s2, s3, s4, s5, s6, q5, q6⟩ := strikesChanged_ok c7 f2 fi co ta
    obtain ⟨d1, u1, u2⟩ := copy_ok (show 9 < 100 by omega) b5 mk
    obtain ⟨d2, u3, u4⟩ := copy_ok (show 9 < 100 by omega) b6 mo
    obtain ⟨m2, m2a, m2b, m2c, m2d⟩ := hpg (j - 2) (by omega)
    obtain ⟨m1, m1a, m1b, m1c, m1d⟩ := hpg (j - 1) (by omega)
    have p2 : mp (j - 2) = nI (48 + b') := by rw [m2d, ← m2c]; exact f5
    have p1 : mp (j - 1) = pg (j - 1) := by rw [m1d, m1c]
    obtain ⟨g1, k, g2, g4, g5⟩ := hC
    unfold f_X1_copyFrom f_X5_copyFrom f_X1_setAllUp
    rw [if_pos (show nI 3 = (3 : Int32) from rfl), ob1_s, if_neg n10, ob4_s, ob14_s, ob1_s, q5, ob7_s, if_pos (show nI 3 - 1 = (2 : Int32) by decide), u1, ob1_s, u3, ob1_s, allUp9 P' (by omega), show nI j - 2 = nI (j - 2) from pk_sub (b := 2) (by omega), show nI j - 1 = nI (j - 1) from pk_sub (b := 1) (by omega), gd_i (by omega) (by omega), gd_i (by omega) (by omega), nI_clamp (by omega), nI_clamp (by omega), p2, p1, show nI (48 + b') - 48 = nI (48 + b' - 48) from pk_sub (b := 48) (by omega), Nat.add_sub_cancel_left]
    simp only [jm_s]
    have hlaw : (if pg (j - 1) = (119 : Int32) then (0 : Int32) else 1) = nI lw' := by
      by_cases e : lw' = 0
      · rw [if_pos (show pg (j - 1) = (119 : Int32) from f7.mpr e), e]; rfl
      · rw [if_neg (show ¬ pg (j - 1) = (119 : Int32) from fun h => e (f7.mp h)), show lw' = 1 by omega]; rfl
    have hout : ∀ {A : Type} (f : Int32 → A), (if pg (j - 1) = (119 : Int32) then f 0 else f 1) = f (nI lw') := fun f => by rw [← hlaw]; split <;> rfl
    rw [hout (fun z => some (nI P', (0 : Int32), nI P', nI Ln', nI (Le' (Ln' - 1)), nI 3 - 1, nI P', nI Ln', nI (2 ^ P' - 1), nI b', z, (0 : Int32), mrd + 1, (0 : Int32), b5, b6, d1, d2))]
    refine ⟨_, _, _, _, _, _, _, _, _, _, _, _, _, _, _, _, _, _, _, _, _, _, _, _, _, _, _, _, _, _, _, _, _, _, _, _, _, _, _, _, _, _, _, _, _, _, _, _, _, _, _, rfl, rfl, P', Ln', b', lw', 2 ^ P' - 1, 0, K', La', F', Le', ⟨rfl, 0, by omega, rfl, fun i hi => absurd hi (by omega)⟩, hWg, ⟨rfl, rfl, rfl, rfl, rfl, r1, c7, c8⟩, ⟨rfl, rfl, rfl, rfl, rfl, rfl, hG8.cong u2 u4⟩, ⟨0, by omega, r2, rfl, fun i hi => absurd hi (by omega)⟩, q6, ⟨Or.inr rfl, fun e => absurd e (by decide)⟩, Or.inl ⟨rfl, ?_⟩, ⟨by rw [g1], k + 1, by omega, by rw [g4, nI_1], ?_⟩⟩
    · rw [g4, nI_1]
      rcases g5 with g5 | ⟨k2, g6, g7⟩
      · rw [g5]; exact fun e => nI_m1 (by omega) e.symm
      · rw [g7]; exact nz (by omega) (by omega) (by omega)
    · rcases g5 with g5 | ⟨k2, g6, g7⟩
      · exact Or.inl g5
      · exact Or.inr ⟨k2, by omega, g7⟩
  · rw [if_neg (show ¬ nI g = (3 : Int32) from nz (k := 3) (by omega) (by omega) eg), ob1_s, if_pos rfl, if_neg (fun e => eg ((be3 g (by omega)).mp e))]
    exact ⟨_, _, _, _, _, _, _, _, _, _, _, _, _, _, _, _, _, _, _, _, _, _, _, _, _, _, _, _, _, _, _, _, _, _, _, _, _, _, _, _, _, _, _, _, _, _, _, _, _, _, _, rfl, rfl, P, Ln, b, law, S, st, K, La, F, Le, hPg', hW, hN, hM, hSe, hSt, hO, hKp, hC.up⟩
