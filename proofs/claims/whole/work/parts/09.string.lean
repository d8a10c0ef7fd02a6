/-! the String constant "pnsfd", as the machine has it -/
def bytT (j : Nat) : Int32 := (pnsfd.getD 0 []).getD j 0
def StrAt (a v : Nat) (A : Nat → Prop) (U : State) (H : Heap) : Prop := va_Z "java/lang/String" "COMPACT_STRINGS" "Z" (.int 1) A U H ∧ va_O "java/lang/String" a A U H ∧ va_OF "java/lang/String" "coder" "B" (.int 0) a A U H ∧ va_OF "java/lang/String" "value" "[B" (.ref v) a A U H ∧ va_T .byte v 5 (fun j => .int (bytT j)) A U H
theorem GP.str {A : Nat → Prop} {U : State} (h : GP A U) : ∃ a v : Nat, vk_R "PinLanes$Reading" 45 "pnsfd" a U ∧ StrAt a v A U U.heap := by
  obtain ⟨-, -, hC, adK, adV, hR, hV⟩ := h
  obtain ⟨h1, h2, h3, h4⟩ := hV.1 0 (by decide)
  exact ⟨adK 0, adV 0, hR, hC, h1, h2, h3, h4⟩
theorem StrAt.call {a v : Nat} {A B : Nat → Prop} {s U : State} {H : Heap} {locs : List Loc} (h : StrAt a v A s s.heap) (hS : va_S A s.heap H locs) (hB : ∀ q, B q → A q) (hU : U.heap = H) (hW : s.WarmedH U.vm) : StrAt a v B U U.heap := by
  obtain ⟨h1, h2, h3, h4, h5⟩ := h
  subst hU
  exact ⟨va_Z.moved hW.alike ((h1.kept hS.2.1).narrow hB), va_O.moved hW.alike ((h2.kept hS.2.1).narrow hB), va_OF.moved hW.alike ((h3.kept hS.2.1).narrow hB), va_OF.moved hW.alike ((h4.kept hS.2.1).narrow hB), va_T.moved hW.alike ((h5.kept hS.2.1).narrow hB)⟩
def CtE (l : Launch) (y : MethodName) (ws : List Cond) (rm : Room) (av : List Value) (D : va_G) (cI cC : ClassId) (wc : va_W) (sz : Nat) (aS vS : Nat) (Qc : (Nat → Prop) → Array Value → State → Outcome → State → Prop) : Prop :=
  Met l y ws rm (va_Pc av (fun U => PreW D cI cC wc sz U ∧ StrAt aS vS (va_A wc sz) U U.heap)) (Qc (va_A wc sz)) rm.cells rm.slots (va_A wc sz)
theorem CtE.blind {D : va_G} {cI cC : ClassId} {wc : va_W} {sz aS vS : Nat} {av : List Value} : FrameBlind (va_Pc av (fun U => PreW D cI cC wc sz U ∧ StrAt aS vS (va_A wc sz) U U.heap)) := by
  intro a U g mk q
  obtain ⟨q0, q1, h1, h2, h3, h4, h5⟩ := q
  exact ⟨q0, (PreW.blind (av := av) a U g mk ⟨q0, q1⟩).2, va_Z.moved (U := U.calling g mk a) (Vm.Alike.refl U.vm) h1, va_O.moved (U := U.calling g mk a) (Vm.Alike.refl U.vm) h2, va_OF.moved (U := U.calling g mk a) (Vm.Alike.refl U.vm) h3, va_OF.moved (U := U.calling g mk a) (Vm.Alike.refl U.vm) h4, va_T.moved (U := U.calling g mk a) (Vm.Alike.refl U.vm) h5⟩
theorem CtE.beg {l : Launch} {y : MethodName} {ws ws' : List Cond} {rm : Room} {av : List Value} {D : va_G} {cI cC : ClassId} {wc : va_W} {sz aS vS : Nat} {Qc : (Nat → Prop) → Array Value → State → Outcome → State → Prop} (cc : ByteArray) (maxL : Nat) (ret : Option FieldType) (lv0 : List (Nat × Value)) (own : String)
    (hy : plainName y.cls = true) (hw : ws = Cond.code y cc maxL ret :: ws') (ho : y.cls = own) (hlen : (lg_sl av).length ≤ maxL) (hlv : lv_args 0 av = lv0)
    (body : ∀ (p : Program) (e : Env) (s : State) (m : MethodId) (below : List Frame) (meth : Method) (c : Code) (A : Nat → Prop), p.tables.exec = Jvm.exec → c.code = cc → meth.sig.returnType = ret → (∀ w ∈ ws, w.before av.toArray s = true) → s.vm.findClass own = some m.cls → meth.locks = false → c.maxLocals = maxL → meth.name = y.name →
      va_K D vwCl (tyU cI cC) s → va_P D vwCl wc s.heap → va_D A wc → va_S A s.heap s.heap [] → (∀ q : Nat, s.heap.size ≤ q → A q) → GP A s → StrAt aS vS A s s.heap → ∀ ls : Array Slot, lv_has ls maxL lv0 →
      W p l e rm s m av.toArray below meth c s.heap [] 0 0 (MQ below (Qc A) av.toArray s rm.cells rm.slots A) (F0 m 0 ls [])) : CtE l y ws rm av D cI cC wc sz aS vS Qc := by
  unfold CtE
  refine Met.ofW (cc := cc) (maxL := maxL) (ret := ret) hy hw ?_
  intro p e s m args below meth c s₁ B hml hv
  obtain ⟨rfl, ⟨hsz, hP, hK, hD0, hG⟩, hE⟩ := hv
  subst hsz
  subst ho
  have hts := atoms_spec (ws := ws) B.pre
  have hD := hD0.self (sz := s.heap.size)
  generalize hAe : va_A wc s.heap.size = A at hD hG hE ⊢
  have hA : ∀ q : Nat, s.heap.size ≤ q → A q := fun q h => by rw [← hAe]; exact Or.inr h
  have hl := lv_entry av (n := maxL) hlen
  rw [lg_entry_eq]
  generalize (lg_sl av ++ List.replicate (maxL - (lg_sl av).length) Slot.unset).toArray = ls at hl ⊢
  rw [hlv] at hl
  exact body p e s m below meth c A B.exec B.bytes B.returns hts (findClass_of_methodNamed B.named) B.notSynchronized hml (name_of_methodNamed B.named B.method).1 hK hP hD va_S.rf hA hG hE ls hl
section ECALLS
variable {p : Program} {l : Launch} {e : Env} {R : Room} {s : State} {m : MethodId} {args : Array Value} {below : List Frame} {meth : Method} {c : Code} {H : Heap} {locs : List Loc} {cells slots : Nat} {Q : State → Prop}
variable {cc : ByteArray} {pc : Nat} {ls : Array Slot} {st : List Value} {D : va_G} {A : Nat → Prop} {cI cC : ClassId} {ww wc w1 wr wn : va_W}
variable {y : MethodName} {bytes : ByteArray} {maxL nL n index : Nat} {ret : Option FieldType} {ws : List Cond} {fr lo : Nat} {Ts : List Cond} {own : String} {aS vS : Nat}
theorem callEVi {r0 : Int32} {As rest : List Value} {isC isR pm : List Nat} (S : CallFix p m c cc nL s args Ts own) (hM : CtE l y ws ⟨fr, 0, 0, lo⟩ (.ref aS :: As) D cI cC wc H.size aS vS (fun A => QI D cI cC A w1 r0)) (hE : StrAt aS vS A s s.heap) (cw : CallW R s args own "java/lang/String" index y bytes maxL ret ws ⟨fr, 0, 0, lo⟩ 0 0 n)
    (hK : va_K D vwCl (tyU cI cC) s) (hP : va_P D vwCl ww H) (hD : va_D A ww) (hS : va_S A s.heap H locs) (hA : ∀ q, s.heap.size ≤ q → A q) (hG : GP A s) (K : Cut ww wc w1 wn isC isR pm)
    (hn : As.length = n) (hsz : ls.size = nL) (hst : st = As.reverse ++ .ref aS :: rest) (hW : (rest.map fun v => v.category).sum ≤ 8) (hf : cells ≤ R.cells ∧ slots ≤ R.slots) (hdg : decode cc pc = .ok (.invokevirtual index, 3))
    (kk : ∀ (H1 : Heap) (locs1 : List Loc), va_P D vwCl wn H1 → va_D A wn → va_S A s.heap H1 locs1 → W p l e R s m args below meth c H1 locs1 cells slots Q (F0 m (pc + 3) ls (.int r0 :: rest))) : W p l e R s m args below meth c H locs cells slots Q (F0 m pc ls st) := by
  subst hst
  have hF := K.ff hD hS hA
  obtain ⟨cell, g1, g2, g3, -⟩ := hE.2.1.kept hS.2.1
  refine va_calli (va_runV (As := As) (rest := rest) S hM cw ⟨CtE.blind, ⟨cell, g1, g2, g3⟩, fun U hU hW => ⟨rfl, K.pre hK hP hD hS hA hG U hU hW, hE.call hS hF hU hW⟩⟩ rfl hn hsz rfl (lv_room hW) hdg hf) hS (fun q _ h => hF q h) hF (fun r u t H1 locs1 ht hvm hw hB hz1 hk1 hS1 => ?_)
  obtain ⟨hP1, hK1, hD1⟩ := hB
  rw [ht] at hP1
  obtain ⟨hP2, hD2⟩ := K.join hP hD hk1 hF hP1 hD1
  rw [hw]
  exact kk H1 locs1 hP2 hD2 hS1
theorem callESi {r0 : Int32} {As rest : List Value} {isC isR pm : List Nat} (S : CallFix p m c cc nL s args Ts own) (hM : CtE l y ws ⟨fr, 0, 0, lo⟩ As D cI cC wc H.size aS vS (fun A => QI D cI cC A w1 r0)) (hE : StrAt aS vS A s s.heap) (cw : CallB R s args own index y bytes maxL ret ws ⟨fr, 0, 0, lo⟩ 0 0 n ∧ (Cond.static y).before args s = true)
    (hK : va_K D vwCl (tyU cI cC) s) (hP : va_P D vwCl ww H) (hD : va_D A ww) (hS : va_S A s.heap H locs) (hA : ∀ q, s.heap.size ≤ q → A q) (hG : GP A s) (K : Cut ww wc w1 wn isC isR pm)
    (hn : As.length = n) (hsz : ls.size = nL) (hst : st = As.reverse ++ rest) (hW : (rest.map fun v => v.category).sum ≤ 8) (hf : cells ≤ R.cells ∧ slots ≤ R.slots) (hdg : decode cc pc = .ok (.invokestatic index, 3))
    (kk : ∀ (H1 : Heap) (locs1 : List Loc), va_P D vwCl wn H1 → va_D A wn → va_S A s.heap H1 locs1 → W p l e R s m args below meth c H1 locs1 cells slots Q (F0 m (pc + 3) ls (.int r0 :: rest))) : W p l e R s m args below meth c H locs cells slots Q (F0 m pc ls st) := by
  subst hst
  have hF := K.ff hD hS hA
  refine va_calli (va_runS (As := As) (rest := rest) S hM cw ⟨CtE.blind, fun U hU hW => ⟨rfl, K.pre hK hP hD hS hA hG U hU hW, hE.call hS hF hU hW⟩⟩ rfl hn hsz rfl (lv_room hW) hdg hf) hS (fun q _ h => hF q h) hF (fun r u t H1 locs1 ht hvm hw hB hz1 hk1 hS1 => ?_)
  obtain ⟨hP1, hK1, hD1⟩ := hB
  rw [ht] at hP1
  obtain ⟨hP2, hD2⟩ := K.join hP hD hk1 hF hP1 hD1
  rw [hw]
  exact kk H1 locs1 hP2 hD2 hS1
end ECALLS
