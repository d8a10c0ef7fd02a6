theorem so2 {τ1 τ2 : Type} {a1 b1 : τ1} {a2 b2 : τ2} (h : some (a1, a2) = some (b1, b2)) : a1 = b1 ∧ a2 = b2 := by
  have h := Option.some.inj h
  simp only [Prod.mk.injEq] at h
  exact h
theorem so3 {τ1 τ2 τ3 : Type} {a1 b1 : τ1} {a2 b2 : τ2} {a3 b3 : τ3} (h : some (a1, a2, a3) = some (b1, b2, b3)) : a1 = b1 ∧ a2 = b2 ∧ a3 = b3 := by
  have h := Option.some.inj h
  simp only [Prod.mk.injEq] at h
  exact h
theorem so4 {τ1 τ2 τ3 τ4 : Type} {a1 b1 : τ1} {a2 b2 : τ2} {a3 b3 : τ3} {a4 b4 : τ4} (h : some (a1, a2, a3, a4) = some (b1, b2, b3, b4)) : a1 = b1 ∧ a2 = b2 ∧ a3 = b3 ∧ a4 = b4 := by
  have h := Option.some.inj h
  simp only [Prod.mk.injEq] at h
  exact h
theorem so5 {τ1 τ2 τ3 τ4 τ5 : Type} {a1 b1 : τ1} {a2 b2 : τ2} {a3 b3 : τ3} {a4 b4 : τ4} {a5 b5 : τ5} (h : some (a1, a2, a3, a4, a5) = some (b1, b2, b3, b4, b5)) : a1 = b1 ∧ a2 = b2 ∧ a3 = b3 ∧ a4 = b4 ∧ a5 = b5 := by
  have h := Option.some.inj h
  simp only [Prod.mk.injEq] at h
  exact h
theorem so6 {τ1 τ2 τ3 τ4 τ5 τ6 : Type} {a1 b1 : τ1} {a2 b2 : τ2} {a3 b3 : τ3} {a4 b4 : τ4} {a5 b5 : τ5} {a6 b6 : τ6} (h : some (a1, a2, a3, a4, a5, a6) = some (b1, b2, b3, b4, b5, b6)) : a1 = b1 ∧ a2 = b2 ∧ a3 = b3 ∧ a4 = b4 ∧ a5 = b5 ∧ a6 = b6 := by
  have h := Option.some.inj h
  simp only [Prod.mk.injEq] at h
  exact h
theorem so7 {τ1 τ2 τ3 τ4 τ5 τ6 τ7 : Type} {a1 b1 : τ1} {a2 b2 : τ2} {a3 b3 : τ3} {a4 b4 : τ4} {a5 b5 : τ5} {a6 b6 : τ6} {a7 b7 : τ7} (h : some (a1, a2, a3, a4, a5, a6, a7) = some (b1, b2, b3, b4, b5, b6, b7)) : a1 = b1 ∧ a2 = b2 ∧ a3 = b3 ∧ a4 = b4 ∧ a5 = b5 ∧ a6 = b6 ∧ a7 = b7 := by
  have h := Option.some.inj h
  simp only [Prod.mk.injEq] at h
  exact h
theorem so8 {τ1 τ2 τ3 τ4 τ5 τ6 τ7 τ8 : Type} {a1 b1 : τ1} {a2 b2 : τ2} {a3 b3 : τ3} {a4 b4 : τ4} {a5 b5 : τ5} {a6 b6 : τ6} {a7 b7 : τ7} {a8 b8 : τ8} (h : some (a1, a2, a3, a4, a5, a6, a7, a8) = some (b1, b2, b3, b4, b5, b6, b7, b8)) : a1 = b1 ∧ a2 = b2 ∧ a3 = b3 ∧ a4 = b4 ∧ a5 = b5 ∧ a6 = b6 ∧ a7 = b7 ∧ a8 = b8 := by
  have h := Option.some.inj h
  simp only [Prod.mk.injEq] at h
  exact h
theorem so9 {τ1 τ2 τ3 τ4 τ5 τ6 τ7 τ8 τ9 : Type} {a1 b1 : τ1} {a2 b2 : τ2} {a3 b3 : τ3} {a4 b4 : τ4} {a5 b5 : τ5} {a6 b6 : τ6} {a7 b7 : τ7} {a8 b8 : τ8} {a9 b9 : τ9} (h : some (a1, a2, a3, a4, a5, a6, a7, a8, a9) = some (b1, b2, b3, b4, b5, b6, b7, b8, b9)) : a1 = b1 ∧ a2 = b2 ∧ a3 = b3 ∧ a4 = b4 ∧ a5 = b5 ∧ a6 = b6 ∧ a7 = b7 ∧ a8 = b8 ∧ a9 = b9 := by
  have h := Option.some.inj h
  simp only [Prod.mk.injEq] at h
  exact h
theorem so10 {τ1 τ2 τ3 τ4 τ5 τ6 τ7 τ8 τ9 τ10 : Type} {a1 b1 : τ1} {a2 b2 : τ2} {a3 b3 : τ3} {a4 b4 : τ4} {a5 b5 : τ5} {a6 b6 : τ6} {a7 b7 : τ7} {a8 b8 : τ8} {a9 b9 : τ9} {a10 b10 : τ10} (h : some (a1, a2, a3, a4, a5, a6, a7, a8, a9, a10) = some (b1, b2, b3, b4, b5, b6, b7, b8, b9, b10)) : a1 = b1 ∧ a2 = b2 ∧ a3 = b3 ∧ a4 = b4 ∧ a5 = b5 ∧ a6 = b6 ∧ a7 = b7 ∧ a8 = b8 ∧ a9 = b9 ∧ a10 = b10 := by
  have h := Option.some.inj h
  simp only [Prod.mk.injEq] at h
  exact h
theorem so11 {τ1 τ2 τ3 τ4 τ5 τ6 τ7 τ8 τ9 τ10 τ11 : Type} {a1 b1 : τ1} {a2 b2 : τ2} {a3 b3 : τ3} {a4 b4 : τ4} {a5 b5 : τ5} {a6 b6 : τ6} {a7 b7 : τ7} {a8 b8 : τ8} {a9 b9 : τ9} {a10 b10 : τ10} {a11 b11 : τ11} (h : some (a1, a2, a3, a4, a5, a6, a7, a8, a9, a10, a11) = some (b1, b2, b3, b4, b5, b6, b7, b8, b9, b10, b11)) : a1 = b1 ∧ a2 = b2 ∧ a3 = b3 ∧ a4 = b4 ∧ a5 = b5 ∧ a6 = b6 ∧ a7 = b7 ∧ a8 = b8 ∧ a9 = b9 ∧ a10 = b10 ∧ a11 = b11 := by
  have h := Option.some.inj h
  simp only [Prod.mk.injEq] at h
  exact h
theorem so12 {τ1 τ2 τ3 τ4 τ5 τ6 τ7 τ8 τ9 τ10 τ11 τ12 : Type} {a1 b1 : τ1} {a2 b2 : τ2} {a3 b3 : τ3} {a4 b4 : τ4} {a5 b5 : τ5} {a6 b6 : τ6} {a7 b7 : τ7} {a8 b8 : τ8} {a9 b9 : τ9} {a10 b10 : τ10} {a11 b11 : τ11} {a12 b12 : τ12} (h : some (a1, a2, a3, a4, a5, a6, a7, a8, a9, a10, a11, a12) = some (b1, b2, b3, b4, b5, b6, b7, b8, b9, b10, b11, b12)) : a1 = b1 ∧ a2 = b2 ∧ a3 = b3 ∧ a4 = b4 ∧ a5 = b5 ∧ a6 = b6 ∧ a7 = b7 ∧ a8 = b8 ∧ a9 = b9 ∧ a10 = b10 ∧ a11 = b11 ∧ a12 = b12 := by
  have h := Option.some.inj h
  simp only [Prod.mk.injEq] at h
  exact h
theorem so13 {τ1 τ2 τ3 τ4 τ5 τ6 τ7 τ8 τ9 τ10 τ11 τ12 τ13 : Type} {a1 b1 : τ1} {a2 b2 : τ2} {a3 b3 : τ3} {a4 b4 : τ4} {a5 b5 : τ5} {a6 b6 : τ6} {a7 b7 : τ7} {a8 b8 : τ8} {a9 b9 : τ9} {a10 b10 : τ10} {a11 b11 : τ11} {a12 b12 : τ12} {a13 b13 : τ13} (h : some (a1, a2, a3, a4, a5, a6, a7, a8, a9, a10, a11, a12, a13) = some (b1, b2, b3, b4, b5, b6, b7, b8, b9, b10, b11, b12, b13)) : a1 = b1 ∧ a2 = b2 ∧ a3 = b3 ∧ a4 = b4 ∧ a5 = b5 ∧ a6 = b6 ∧ a7 = b7 ∧ a8 = b8 ∧ a9 = b9 ∧ a10 = b10 ∧ a11 = b11 ∧ a12 = b12 ∧ a13 = b13 := by
  have h := Option.some.inj h
  simp only [Prod.mk.injEq] at h
  exact h
theorem so14 {τ1 τ2 τ3 τ4 τ5 τ6 τ7 τ8 τ9 τ10 τ11 τ12 τ13 τ14 : Type} {a1 b1 : τ1} {a2 b2 : τ2} {a3 b3 : τ3} {a4 b4 : τ4} {a5 b5 : τ5} {a6 b6 : τ6} {a7 b7 : τ7} {a8 b8 : τ8} {a9 b9 : τ9} {a10 b10 : τ10} {a11 b11 : τ11} {a12 b12 : τ12} {a13 b13 : τ13} {a14 b14 : τ14} (h : some (a1, a2, a3, a4, a5, a6, a7, a8, a9, a10, a11, a12, a13, a14) = some (b1, b2, b3, b4, b5, b6, b7, b8, b9, b10, b11, b12, b13, b14)) : a1 = b1 ∧ a2 = b2 ∧ a3 = b3 ∧ a4 = b4 ∧ a5 = b5 ∧ a6 = b6 ∧ a7 = b7 ∧ a8 = b8 ∧ a9 = b9 ∧ a10 = b10 ∧ a11 = b11 ∧ a12 = b12 ∧ a13 = b13 ∧ a14 = b14 := by
  have h := Option.some.inj h
  simp only [Prod.mk.injEq] at h
  exact h
theorem so15 {τ1 τ2 τ3 τ4 τ5 τ6 τ7 τ8 τ9 τ10 τ11 τ12 τ13 τ14 τ15 : Type} {a1 b1 : τ1} {a2 b2 : τ2} {a3 b3 : τ3} {a4 b4 : τ4} {a5 b5 : τ5} {a6 b6 : τ6} {a7 b7 : τ7} {a8 b8 : τ8} {a9 b9 : τ9} {a10 b10 : τ10} {a11 b11 : τ11} {a12 b12 : τ12} {a13 b13 : τ13} {a14 b14 : τ14} {a15 b15 : τ15} (h : some (a1, a2, a3, a4, a5, a6, a7, a8, a9, a10, a11, a12, a13, a14, a15) = some (b1, b2, b3, b4, b5, b6, b7, b8, b9, b10, b11, b12, b13, b14, b15)) : a1 = b1 ∧ a2 = b2 ∧ a3 = b3 ∧ a4 = b4 ∧ a5 = b5 ∧ a6 = b6 ∧ a7 = b7 ∧ a8 = b8 ∧ a9 = b9 ∧ a10 = b10 ∧ a11 = b11 ∧ a12 = b12 ∧ a13 = b13 ∧ a14 = b14 ∧ a15 = b15 := by
  have h := Option.some.inj h
  simp only [Prod.mk.injEq] at h
  exact h
theorem so16 {τ1 τ2 τ3 τ4 τ5 τ6 τ7 τ8 τ9 τ10 τ11 τ12 τ13 τ14 τ15 τ16 : Type} {a1 b1 : τ1} {a2 b2 : τ2} {a3 b3 : τ3} {a4 b4 : τ4} {a5 b5 : τ5} {a6 b6 : τ6} {a7 b7 : τ7} {a8 b8 : τ8} {a9 b9 : τ9} {a10 b10 : τ10} {a11 b11 : τ11} {a12 b12 : τ12} {a13 b13 : τ13} {a14 b14 : τ14} {a15 b15 : τ15} {a16 b16 : τ16} (h : some (a1, a2, a3, a4, a5, a6, a7, a8, a9, a10, a11, a12, a13, a14, a15, a16) = some (b1, b2, b3, b4, b5, b6, b7, b8, b9, b10, b11, b12, b13, b14, b15, b16)) : a1 = b1 ∧ a2 = b2 ∧ a3 = b3 ∧ a4 = b4 ∧ a5 = b5 ∧ a6 = b6 ∧ a7 = b7 ∧ a8 = b8 ∧ a9 = b9 ∧ a10 = b10 ∧ a11 = b11 ∧ a12 = b12 ∧ a13 = b13 ∧ a14 = b14 ∧ a15 = b15 ∧ a16 = b16 := by
  have h := Option.some.inj h
  simp only [Prod.mk.injEq] at h
  exact h
theorem so17 {τ1 τ2 τ3 τ4 τ5 τ6 τ7 τ8 τ9 τ10 τ11 τ12 τ13 τ14 τ15 τ16 τ17 : Type} {a1 b1 : τ1} {a2 b2 : τ2} {a3 b3 : τ3} {a4 b4 : τ4} {a5 b5 : τ5} {a6 b6 : τ6} {a7 b7 : τ7} {a8 b8 : τ8} {a9 b9 : τ9} {a10 b10 : τ10} {a11 b11 : τ11} {a12 b12 : τ12} {a13 b13 : τ13} {a14 b14 : τ14} {a15 b15 : τ15} {a16 b16 : τ16} {a17 b17 : τ17} (h : some (a1, a2, a3, a4, a5, a6, a7, a8, a9, a10, a11, a12, a13, a14, a15, a16, a17) = some (b1, b2, b3, b4, b5, b6, b7, b8, b9, b10, b11, b12, b13, b14, b15, b16, b17)) : a1 = b1 ∧ a2 = b2 ∧ a3 = b3 ∧ a4 = b4 ∧ a5 = b5 ∧ a6 = b6 ∧ a7 = b7 ∧ a8 = b8 ∧ a9 = b9 ∧ a10 = b10 ∧ a11 = b11 ∧ a12 = b12 ∧ a13 = b13 ∧ a14 = b14 ∧ a15 = b15 ∧ a16 = b16 ∧ a17 = b17 := by
  have h := Option.some.inj h
  simp only [Prod.mk.injEq] at h
  exact h
theorem so18 {τ1 τ2 τ3 τ4 τ5 τ6 τ7 τ8 τ9 τ10 τ11 τ12 τ13 τ14 τ15 τ16 τ17 τ18 : Type} {a1 b1 : τ1} {a2 b2 : τ2} {a3 b3 : τ3} {a4 b4 : τ4} {a5 b5 : τ5} {a6 b6 : τ6} {a7 b7 : τ7} {a8 b8 : τ8} {a9 b9 : τ9} {a10 b10 : τ10} {a11 b11 : τ11} {a12 b12 : τ12} {a13 b13 : τ13} {a14 b14 : τ14} {a15 b15 : τ15} {a16 b16 : τ16} {a17 b17 : τ17} {a18 b18 : τ18} (h : some (a1, a2, a3, a4, a5, a6, a7, a8, a9, a10, a11, a12, a13, a14, a15, a16, a17, a18) = some (b1, b2, b3, b4, b5, b6, b7, b8, b9, b10, b11, b12, b13, b14, b15, b16, b17, b18)) : a1 = b1 ∧ a2 = b2 ∧ a3 = b3 ∧ a4 = b4 ∧ a5 = b5 ∧ a6 = b6 ∧ a7 = b7 ∧ a8 = b8 ∧ a9 = b9 ∧ a10 = b10 ∧ a11 = b11 ∧ a12 = b12 ∧ a13 = b13 ∧ a14 = b14 ∧ a15 = b15 ∧ a16 = b16 ∧ a17 = b17 ∧ a18 = b18 := by
  have h := Option.some.inj h
  simp only [Prod.mk.injEq] at h
  exact h
theorem so19 {τ1 τ2 τ3 τ4 τ5 τ6 τ7 τ8 τ9 τ10 τ11 τ12 τ13 τ14 τ15 τ16 τ17 τ18 τ19 : Type} {a1 b1 : τ1} {a2 b2 : τ2} {a3 b3 : τ3} {a4 b4 : τ4} {a5 b5 : τ5} {a6 b6 : τ6} {a7 b7 : τ7} {a8 b8 : τ8} {a9 b9 : τ9} {a10 b10 : τ10} {a11 b11 : τ11} {a12 b12 : τ12} {a13 b13 : τ13} {a14 b14 : τ14} {a15 b15 : τ15} {a16 b16 : τ16} {a17 b17 : τ17} {a18 b18 : τ18} {a19 b19 : τ19} (h : some (a1, a2, a3, a4, a5, a6, a7, a8, a9, a10, a11, a12, a13, a14, a15, a16, a17, a18, a19) = some (b1, b2, b3, b4, b5, b6, b7, b8, b9, b10, b11, b12, b13, b14, b15, b16, b17, b18, b19)) : a1 = b1 ∧ a2 = b2 ∧ a3 = b3 ∧ a4 = b4 ∧ a5 = b5 ∧ a6 = b6 ∧ a7 = b7 ∧ a8 = b8 ∧ a9 = b9 ∧ a10 = b10 ∧ a11 = b11 ∧ a12 = b12 ∧ a13 = b13 ∧ a14 = b14 ∧ a15 = b15 ∧ a16 = b16 ∧ a17 = b17 ∧ a18 = b18 ∧ a19 = b19 := by
  have h := Option.some.inj h
  simp only [Prod.mk.injEq] at h
  exact h
theorem so20 {τ1 τ2 τ3 τ4 τ5 τ6 τ7 τ8 τ9 τ10 τ11 τ12 τ13 τ14 τ15 τ16 τ17 τ18 τ19 τ20 : Type} {a1 b1 : τ1} {a2 b2 : τ2} {a3 b3 : τ3} {a4 b4 : τ4} {a5 b5 : τ5} {a6 b6 : τ6} {a7 b7 : τ7} {a8 b8 : τ8} {a9 b9 : τ9} {a10 b10 : τ10} {a11 b11 : τ11} {a12 b12 : τ12} {a13 b13 : τ13} {a14 b14 : τ14} {a15 b15 : τ15} {a16 b16 : τ16} {a17 b17 : τ17} {a18 b18 : τ18} {a19 b19 : τ19} {a20 b20 : τ20} (h : some (a1, a2, a3, a4, a5, a6, a7, a8, a9, a10, a11, a12, a13, a14, a15, a16, a17, a18, a19, a20) = some (b1, b2, b3, b4, b5, b6, b7, b8, b9, b10, b11, b12, b13, b14, b15, b16, b17, b18, b19, b20)) : a1 = b1 ∧ a2 = b2 ∧ a3 = b3 ∧ a4 = b4 ∧ a5 = b5 ∧ a6 = b6 ∧ a7 = b7 ∧ a8 = b8 ∧ a9 = b9 ∧ a10 = b10 ∧ a11 = b11 ∧ a12 = b12 ∧ a13 = b13 ∧ a14 = b14 ∧ a15 = b15 ∧ a16 = b16 ∧ a17 = b17 ∧ a18 = b18 ∧ a19 = b19 ∧ a20 = b20 := by
  have h := Option.some.inj h
  simp only [Prod.mk.injEq] at h
  exact h
theorem so21 {τ1 τ2 τ3 τ4 τ5 τ6 τ7 τ8 τ9 τ10 τ11 τ12 τ13 τ14 τ15 τ16 τ17 τ18 τ19 τ20 τ21 : Type} {a1 b1 : τ1} {a2 b2 : τ2} {a3 b3 : τ3} {a4 b4 : τ4} {a5 b5 : τ5} {a6 b6 : τ6} {a7 b7 : τ7} {a8 b8 : τ8} {a9 b9 : τ9} {a10 b10 : τ10} {a11 b11 : τ11} {a12 b12 : τ12} {a13 b13 : τ13} {a14 b14 : τ14} {a15 b15 : τ15} {a16 b16 : τ16} {a17 b17 : τ17} {a18 b18 : τ18} {a19 b19 : τ19} {a20 b20 : τ20} {a21 b21 : τ21} (h : some (a1, a2, a3, a4, a5, a6, a7, a8, a9, a10, a11, a12, a13, a14, a15, a16, a17, a18, a19, a20, a21) = some (b1, b2, b3, b4, b5, b6, b7, b8, b9, b10, b11, b12, b13, b14, b15, b16, b17, b18, b19, b20, b21)) : a1 = b1 ∧ a2 = b2 ∧ a3 = b3 ∧ a4 = b4 ∧ a5 = b5 ∧ a6 = b6 ∧ a7 = b7 ∧ a8 = b8 ∧ a9 = b9 ∧ a10 = b10 ∧ a11 = b11 ∧ a12 = b12 ∧ a13 = b13 ∧ a14 = b14 ∧ a15 = b15 ∧ a16 = b16 ∧ a17 = b17 ∧ a18 = b18 ∧ a19 = b19 ∧ a20 = b20 ∧ a21 = b21 := by
  have h := Option.some.inj h
  simp only [Prod.mk.injEq] at h
  exact h
theorem so22 {τ1 τ2 τ3 τ4 τ5 τ6 τ7 τ8 τ9 τ10 τ11 τ12 τ13 τ14 τ15 τ16 τ17 τ18 τ19 τ20 τ21 τ22 : Type} {a1 b1 : τ1} {a2 b2 : τ2} {a3 b3 : τ3} {a4 b4 : τ4} {a5 b5 : τ5} {a6 b6 : τ6} {a7 b7 : τ7} {a8 b8 : τ8} {a9 b9 : τ9} {a10 b10 : τ10} {a11 b11 : τ11} {a12 b12 : τ12} {a13 b13 : τ13} {a14 b14 : τ14} {a15 b15 : τ15} {a16 b16 : τ16} {a17 b17 : τ17} {a18 b18 : τ18} {a19 b19 : τ19} {a20 b20 : τ20} {a21 b21 : τ21} {a22 b22 : τ22} (h : some (a1, a2, a3, a4, a5, a6, a7, a8, a9, a10, a11, a12, a13, a14, a15, a16, a17, a18, a19, a20, a21, a22) = some (b1, b2, b3, b4, b5, b6, b7, b8, b9, b10, b11, b12, b13, b14, b15, b16, b17, b18, b19, b20, b21, b22)) : a1 = b1 ∧ a2 = b2 ∧ a3 = b3 ∧ a4 = b4 ∧ a5 = b5 ∧ a6 = b6 ∧ a7 = b7 ∧ a8 = b8 ∧ a9 = b9 ∧ a10 = b10 ∧ a11 = b11 ∧ a12 = b12 ∧ a13 = b13 ∧ a14 = b14 ∧ a15 = b15 ∧ a16 = b16 ∧ a17 = b17 ∧ a18 = b18 ∧ a19 = b19 ∧ a20 = b20 ∧ a21 = b21 ∧ a22 = b22 := by
  have h := Option.some.inj h
  simp only [Prod.mk.injEq] at h
  exact h
theorem so23 {τ1 τ2 τ3 τ4 τ5 τ6 τ7 τ8 τ9 τ10 τ11 τ12 τ13 τ14 τ15 τ16 τ17 τ18 τ19 τ20 τ21 τ22 τ23 : Type} {a1 b1 : τ1} {a2 b2 : τ2} {a3 b3 : τ3} {a4 b4 : τ4} {a5 b5 : τ5} {a6 b6 : τ6} {a7 b7 : τ7} {a8 b8 : τ8} {a9 b9 : τ9} {a10 b10 : τ10} {a11 b11 : τ11} {a12 b12 : τ12} {a13 b13 : τ13} {a14 b14 : τ14} {a15 b15 : τ15} {a16 b16 : τ16} {a17 b17 : τ17} {a18 b18 : τ18} {a19 b19 : τ19} {a20 b20 : τ20} {a21 b21 : τ21} {a22 b22 : τ22} {a23 b23 : τ23} (h : some (a1, a2, a3, a4, a5, a6, a7, a8, a9, a10, a11, a12, a13, a14, a15, a16, a17, a18, a19, a20, a21, a22, a23) = some (b1, b2, b3, b4, b5, b6, b7, b8, b9, b10, b11, b12, b13, b14, b15, b16, b17, b18, b19, b20, b21, b22, b23)) : a1 = b1 ∧ a2 = b2 ∧ a3 = b3 ∧ a4 = b4 ∧ a5 = b5 ∧ a6 = b6 ∧ a7 = b7 ∧ a8 = b8 ∧ a9 = b9 ∧ a10 = b10 ∧ a11 = b11 ∧ a12 = b12 ∧ a13 = b13 ∧ a14 = b14 ∧ a15 = b15 ∧ a16 = b16 ∧ a17 = b17 ∧ a18 = b18 ∧ a19 = b19 ∧ a20 = b20 ∧ a21 = b21 ∧ a22 = b22 ∧ a23 = b23 := by
  have h := Option.some.inj h
  simp only [Prod.mk.injEq] at h
  exact h
