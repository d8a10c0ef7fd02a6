/-! base: what every contract here has, and how a call and an end are written -/
abbrev tyU (cI cC : ClassId) : List (ClassId × FieldType) := [(cI, .int), (cC, .char)]
def nwl : List Cond := [.methodLinkNest "PinLanes" 15 yX3_init "PinLanes", .methodLinkNest "PinLanes$Reading" 11 yX1_init "PinLanes", .methodLinkNest "PinLanes$Green" 26 yX5_init "PinLanes", .methodLinkNest "PinLanes" 22 yX1_init "PinLanes", .methodLinkNest "PinLanes" 32 yX6_init "PinLanes", .methodLinkNest "PinLanes" 39 yX2_init "PinLanes", .methodLinkNest "PinLanes" 46 yX4_init "PinLanes", .methodLinkNest "PinLanes" 53 yX0_init "PinLanes", .methodLinkNest "PinLanes$Reading" 60 yX7_isBall "PinLanes", .methodLinkNest "PinLanes$Strikes" 50 yX7_bits "PinLanes", .methodLinkNest "PinLanes$Green" 71 yX7_isAlso "PinLanes", .methodLinkNest "PinLanes$Green" 60 yX7_bits "PinLanes", .methodLinkNest "PinLanes$Outlook" 50 yX7_leastNotIn "PinLanes", .methodLinkNest "PinLanes$Rows" 23 yX7_leastNotIn "PinLanes"]
def NwA (U : State) : Prop := ∀ w ∈ nwl, va_Nw w U
theorem NwA.warm {s U : State} (hW : s.WarmedH U.vm) (h : NwA s) : NwA U := by
  intro w hw
  have h1 := h w hw
  simp only [nwl, List.mem_cons, List.not_mem_nil, or_false] at hw
  rcases hw with rfl | rfl | rfl | rfl | rfl | rfl | rfl | rfl | rfl | rfl | rfl | rfl | rfl | rfl <;> exact va_Nw.warmM hW h1
theorem NwA.same {u U : State} (hv : u.vm = U.vm) (h : NwA u) : NwA U := by
  intro w hw
  have h1 := h w hw
  simp only [nwl, List.mem_cons, List.not_mem_nil, or_false] at hw
  rcases hw with rfl | rfl | rfl | rfl | rfl | rfl | rfl | rfl | rfl | rfl | rfl | rfl | rfl | rfl <;> exact va_Nw.same rfl hv h1
def fellT (j : Nat) : Int32 := ([1, 2, 2, 2, 1, 0, 0, 0, 3, 3] : List Int32).getD j 0
def pnsfd : List (List Int32) := [[112, 110, 115, 102, 100]]
def StF (A : Nat → Prop) (U : State) (H : Heap) : Prop :=
  (∃ t : Nat, va_Z "PinLanes$Seen" "FELL" "[I" (.ref t) A U H ∧ va_T .int t 10 (fun j => .int (fellT j)) A U H) ∧ va_Z "java/lang/String" "COMPACT_STRINGS" "Z" (.int 1) A U H ∧
    ∃ adK adV : Nat → Nat, vk_R "PinLanes$Reading" 45 "pnsfd" (adK 0) U ∧ vk_S 1 [5] pnsfd adK adV A U H
def GP (A : Nat → Prop) (U : State) : Prop := NwA U ∧ StF A U U.heap
theorem GP.call {A B : Nat → Prop} {s U : State} {H : Heap} {locs : List Loc} (h : GP A s) (hS : va_S A s.heap H locs) (hB : ∀ q, B q → A q) (hU : U.heap = H) (hW : s.WarmedH U.vm) : GP B U := by
  obtain ⟨hn, ⟨t, hZ, hT⟩, hC, adK, adV, hR, hV⟩ := h
  subst hU
  exact ⟨hn.warm hW, ⟨t, va_Z.moved hW.alike ((hZ.kept hS.2.1).narrow hB), va_T.moved hW.alike ((hT.kept hS.2.1).narrow hB)⟩, va_Z.moved hW.alike ((hC.kept hS.2.1).narrow hB), adK, adV, hR.warm hW, vk_S.moved hW.alike ((hV.kept hS.2.1).narrow hB)⟩
theorem GP.blind {A : Nat → Prop} {U : State} (g : JFrame) (mk : MethodId) (a : Array Value) (h : GP A U) : GP A (U.calling g mk a) := by
  obtain ⟨hn, ⟨t, hZ, hT⟩, hC, adK, adV, hR, hV⟩ := h
  exact ⟨NwA.same (u := U) (U := U.calling g mk a) rfl hn, ⟨t, va_Z.moved (U := U.calling g mk a) (Vm.Alike.refl U.vm) hZ, va_T.moved (U := U.calling g mk a) (Vm.Alike.refl U.vm) hT⟩, va_Z.moved (U := U.calling g mk a) (Vm.Alike.refl U.vm) hC, adK, adV, vk_R.same (u := U) (U := U.calling g mk a) rfl hR, vk_S.moved (U := U.calling g mk a) (Vm.Alike.refl U.vm) hV⟩
def PreW (D : va_G) (cI cC : ClassId) (wc : va_W) (sz : Nat) (U : State) : Prop := U.heap.size = sz ∧ va_P D vwCl wc U.heap ∧ va_K D vwCl (tyU cI cC) U ∧ va_D (fun _ => True) wc ∧ GP (va_A wc sz) U
def PostW (D : va_G) (cI cC : ClassId) (A : Nat → Prop) (w1 : va_W) (_ : Unit) (t : State) : Prop := va_P D vwCl w1 t.heap ∧ va_K D vwCl (tyU cI cC) t ∧ va_D A w1
def PostR (D : va_G) (cI cC : ClassId) (A : Nat → Prop) (w1 : va_W) (r : Nat) (u : Unit) (a : Nat) (t : State) : Prop := a = r ∧ PostW D cI cC A w1 u t
theorem PreW.blind {D : va_G} {cI cC : ClassId} {wc : va_W} {sz : Nat} {av : List Value} : FrameBlind (va_Pc av (PreW D cI cC wc sz)) := by
  intro a U g mk q
  obtain ⟨q0, q1, qP, qK, qD, qG⟩ := q
  exact ⟨q0, q1, qP, va_K.moved (u := U) (U := U.calling g mk a) (Vm.Alike.refl U.vm) qK, qD, qG.blind g mk a⟩
abbrev QI (D : va_G) (cI cC : ClassId) (A : Nat → Prop) (w1 : va_W) (r0 : Int32) : Array Value → State → Outcome → State → Prop := va_Qi (fun r (_ : Unit) => r = r0) (PostW D cI cC A w1) A
abbrev QL (D : va_G) (cI cC : ClassId) (A : Nat → Prop) (w1 : va_W) (r0 : Int64) : Array Value → State → Outcome → State → Prop := va_Ql (fun r (_ : Unit) => r = r0) (PostW D cI cC A w1) A
abbrev QV (D : va_G) (cI cC : ClassId) (A : Nat → Prop) (w1 : va_W) : Array Value → State → Outcome → State → Prop := va_Qv (fun (_ : Unit) => True) (PostW D cI cC A w1) A
abbrev QR (D : va_G) (cI cC : ClassId) (A : Nat → Prop) (w1 : va_W) (r0 : Nat) : Array Value → State → Outcome → State → Prop := va_Qr (fun (_ : Unit) => True) (PostR D cI cC A w1 r0) A
/-- a method's contract: from the cells wc, by these arguments: Qc, made of va_A wc sz -/
def Ct (l : Launch) (y : MethodName) (ws : List Cond) (rm : Room) (av : List Value) (D : va_G) (cI cC : ClassId) (wc : va_W) (sz : Nat) (Qc : (Nat → Prop) → Array Value → State → Outcome → State → Prop) : Prop :=
  Met l y ws rm (va_Pc av (PreW D cI cC wc sz)) (Qc (va_A wc sz)) rm.cells rm.slots (va_A wc sz)
theorem fm_of_map {α β : Type} (f : α → Option β) : ∀ (l : List α) (w : List β), l.map f = w.map some → l.filterMap f = w
  | [], w, h => by cases w with
    | nil => rfl
    | cons b w => simp at h
  | a :: l, w, h => by cases w with
    | nil => simp at h
    | cons b w =>
      simp only [List.map_cons, List.cons.injEq] at h
      rw [List.filterMap_cons, h.1, fm_of_map f l w h.2]
/-- the beginning of every contract -/
theorem Ct.beg {l : Launch} {y : MethodName} {ws ws' : List Cond} {rm : Room} {av : List Value} {D : va_G} {cI cC : ClassId} {wc : va_W} {sz : Nat} {Qc : (Nat → Prop) → Array Value → State → Outcome → State → Prop} (cc : ByteArray) (maxL : Nat) (ret : Option FieldType) (lv0 : List (Nat × Value)) (own : String)
    (hy : plainName y.cls = true) (hw : ws = Cond.code y cc maxL ret :: ws') (ho : y.cls = own) (hlen : (lg_sl av).length ≤ maxL) (hlv : lv_args 0 av = lv0)
    (body : ∀ (p : Program) (e : Env) (s : State) (m : MethodId) (below : List Frame) (meth : Method) (c : Code) (A : Nat → Prop), p.tables.exec = Jvm.exec → c.code = cc → meth.sig.returnType = ret → (∀ w ∈ ws, w.before av.toArray s = true) → s.vm.findClass own = some m.cls → meth.locks = false → c.maxLocals = maxL → meth.name = y.name →
      va_K D vwCl (tyU cI cC) s → va_P D vwCl wc s.heap → va_D A wc → va_S A s.heap s.heap [] → (∀ q : Nat, s.heap.size ≤ q → A q) → GP A s → ∀ ls : Array Slot, lv_has ls maxL lv0 →
      W p l e rm s m av.toArray below meth c s.heap [] 0 0 (MQ below (Qc A) av.toArray s rm.cells rm.slots A) (F0 m 0 ls [])) : Ct l y ws rm av D cI cC wc sz Qc := by
  unfold Ct
  refine Met.ofW (cc := cc) (maxL := maxL) (ret := ret) hy hw ?_
  intro p e s m args below meth c s₁ B hml hv
  obtain ⟨rfl, hsz, hP, hK, hD0, hG⟩ := hv
  subst hsz
  subst ho
  have hts := atoms_spec (ws := ws) B.pre
  have hD := hD0.self (sz := s.heap.size)
  generalize hAe : va_A wc s.heap.size = A at hD hG ⊢
  have hA : ∀ q : Nat, s.heap.size ≤ q → A q := fun q h => by rw [← hAe]; exact Or.inr h
  have hl := lv_entry av (n := maxL) hlen
  rw [lg_entry_eq]
  generalize (lg_sl av ++ List.replicate (maxL - (lg_sl av).length) Slot.unset).toArray = ls at hl ⊢
  rw [hlv] at hl
  exact body p e s m below meth c A B.exec B.bytes B.returns hts (findClass_of_methodNamed B.named) B.notSynchronized hml (name_of_methodNamed B.named B.method).1 hK hP hD va_S.rf hA hG ls hl
section ENDS
variable {p : Program} {l : Launch} {e : Env} {R : Room} {s : State} {m : MethodId} {args : Array Value} {below : List Frame} {meth : Method} {c : Code} {H : Heap} {locs : List Loc} {cells slots : Nat} {Q : State → Prop}
variable {cc : ByteArray} {pc : Nat} {ls : Array Slot} {rest : List Value} {D : va_G} {A : Nat → Prop} {cI cC : ClassId} {w1 : va_W}
theorem endI {v r0 : Int32} (hx : p.tables.exec = Jvm.exec) (hb : c.code = cc) (hr : meth.sig.returnType = some .int) (hlk : meth.locks = false) (hK : va_K D vwCl (tyU cI cC) s) (hP : va_P D vwCl w1 H) (hD : va_D A w1) (hS : va_S A s.heap H locs) (hv : v = r0) (hdg : decode cc pc = .ok (.ireturn, 1)) :
    W p l e R s m args below meth c H locs cells slots (MQ below (QI D cI cC A w1 r0) args s cells slots A) (F0 m pc ls [.int v]) :=
  W.iret hx hb hr (fun t ht hW => ⟨⟨v, (), rfl, hv, by rw [ht]; exact hP, va_K.moved hW.alike hK, hD⟩, hS.F ht⟩) hS.2.2 hdg hlk
theorem endZ {v r0 : Int32} {ty : FieldType} (hx : p.tables.exec = Jvm.exec) (hb : c.code = cc) (hr : meth.sig.returnType = some ty) (hn : narrow ty (.int v) = .int v) (hlk : meth.locks = false) (hK : va_K D vwCl (tyU cI cC) s) (hP : va_P D vwCl w1 H) (hD : va_D A w1) (hS : va_S A s.heap H locs) (hv : v = r0) (hdg : decode cc pc = .ok (.ireturn, 1)) :
    W p l e R s m args below meth c H locs cells slots (MQ below (QI D cI cC A w1 r0) args s cells slots A) (F0 m pc ls [.int v]) :=
  W.zret hx hb hr hn (fun t ht hW => ⟨⟨v, (), rfl, hv, by rw [ht]; exact hP, va_K.moved hW.alike hK, hD⟩, hS.F ht⟩) hS.2.2 hdg hlk
theorem endL {v r0 : Int64} (hx : p.tables.exec = Jvm.exec) (hb : c.code = cc) (hr : meth.sig.returnType = some .long) (hlk : meth.locks = false) (hK : va_K D vwCl (tyU cI cC) s) (hP : va_P D vwCl w1 H) (hD : va_D A w1) (hS : va_S A s.heap H locs) (hv : v = r0) (hdg : decode cc pc = .ok (.lreturn, 1)) :
    W p l e R s m args below meth c H locs cells slots (MQ below (QL D cI cC A w1 r0) args s cells slots A) (F0 m pc ls [.long v]) :=
  W.lret hx hb hr (fun t ht hW => ⟨⟨v, (), rfl, hv, by rw [ht]; exact hP, va_K.moved hW.alike hK, hD⟩, hS.F ht⟩) hS.2.2 hdg hlk
theorem endV (hx : p.tables.exec = Jvm.exec) (hb : c.code = cc) (hr : meth.sig.returnType = none) (hlk : meth.locks = false) (hK : va_K D vwCl (tyU cI cC) s) (hP : va_P D vwCl w1 H) (hD : va_D A w1) (hS : va_S A s.heap H locs) (hdg : decode cc pc = .ok (.return_, 1)) :
    W p l e R s m args below meth c H locs cells slots (MQ below (QV D cI cC A w1) args s cells slots A) (F0 m pc ls []) :=
  W.vret hx hb hr (fun t ht hW => ⟨⟨(), rfl, trivial, by rw [ht]; exact hP, va_K.moved hW.alike hK, hD⟩, hS.F ht⟩) hS.2.2 hdg hlk
theorem endR {v r0 : Nat} {rt : FieldType} (hx : p.tables.exec = Jvm.exec) (hb : c.code = cc) (hr : meth.sig.returnType = some rt) (hrt : ∃ n, rt = .object n) (hlk : meth.locks = false) (hK : va_K D vwCl (tyU cI cC) s) (hP : va_P D vwCl w1 H) (hD : va_D A w1) (hS : va_S A s.heap H locs) (hv : v = r0) (hdg : decode cc pc = .ok (.areturn, 1)) :
    W p l e R s m args below meth c H locs cells slots (MQ below (QR D cI cC A w1 r0) args s cells slots A) (F0 m pc ls [.ref v]) :=
  W.aret hx hb hr (Or.inl hrt) (Or.inr ⟨v, rfl⟩) (fun t ht hW => ⟨⟨(), v, rfl, trivial, hv, by rw [ht]; exact hP, va_K.moved hW.alike hK, hD⟩, hS.F ht⟩) hS.2.2 hdg hlk
end ENDS
section CALLS
variable {p : Program} {l : Launch} {e : Env} {R : Room} {s : State} {m : MethodId} {args : Array Value} {below : List Frame} {meth : Method} {c : Code} {H : Heap} {locs : List Loc} {cells slots : Nat} {Q : State → Prop}
variable {cc : ByteArray} {pc : Nat} {ls : Array Slot} {st : List Value} {D : va_G} {A : Nat → Prop} {cI cC : ClassId} {ww wc w1 wr wn : va_W}
variable {y : MethodName} {bytes : ByteArray} {maxL nL n index : Nat} {ret : Option FieldType} {ws : List Cond} {fr lo : Nat} {Ts : List Cond} {own C : String} {b : Addr}
/-- how the callee's cells lie in the caller's world: its places, the others, the new order -/
def Cut (ww wc w1 wn : va_W) (isC isR pm : List Nat) : Prop := ∃ wr : va_W, va_nd isC = true ∧ isC.map (fun i => ww[i]?) = wc.map some ∧ isR.map (fun i => ww[i]?) = wr.map some ∧ va_nd isR = true ∧ (∀ i ∈ isR, i ∉ isC) ∧ va_nd pm = true ∧ pm.map (fun i => (wr ++ w1)[i]?) = wn.map some
theorem Cut.ff {H0 : Heap} {isC isR pm : List Nat} (K : Cut ww wc w1 wn isC isR pm) (hD : va_D A ww) (hS : va_S A H0 H locs) (hA : ∀ q, H0.size ≤ q → A q) : ∀ q, va_A wc H.size q → A q := by
  obtain ⟨wr, h1, h2, h3, h4, h5, h6, h7⟩ := K
  exact va_free hD hS hA isC h2
theorem Cut.join {H1 : Heap} {isC isR pm : List Nat} (K : Cut ww wc w1 wn isC isR pm) (hP : va_P D vwCl ww H) (hD : va_D A ww) (hk : ∀ q : Nat, q < H.size → ¬ va_A wc H.size q → H1[q]? = H[q]?) (hF : ∀ q, va_A wc H.size q → A q) (hP1 : va_P D vwCl w1 H1) (hD1 : va_D (va_A wc H.size) w1) : va_P D vwCl wn H1 ∧ va_D A wn := by
  obtain ⟨wr, h1, h2, h3, h4, h5, h6, h7⟩ := K
  obtain ⟨a, b⟩ := va_join hP hD isC isR h2 h3 h4 h5 hk hF hP1 hD1
  exact ⟨a.sub pm (fm_of_map _ _ _ h7), b.sub pm h6 h7⟩
theorem Cut.pre {isC isR pm : List Nat} (K : Cut ww wc w1 wn isC isR pm) (hK : va_K D vwCl (tyU cI cC) s) (hP : va_P D vwCl ww H) (hD : va_D A ww) (hS : va_S A s.heap H locs) (hA : ∀ q, s.heap.size ≤ q → A q) (hG : GP A s) (U : State) (hU : U.heap = H) (hW : s.WarmedH U.vm) : PreW D cI cC wc H.size U := by
  have hF := K.ff hD hS hA
  obtain ⟨wr, h1, h2, h3, h4, h5, h6, h7⟩ := K
  exact ⟨by rw [hU], by rw [hU]; exact hP.sub isC (fm_of_map _ _ _ h2), va_K.moved hW.alike hK, (hD.sub isC h1 h2).weaken (fun _ _ _ _ => trivial), hG.call hS hF hU hW⟩
theorem Cut.P {isC isR pm : List Nat} (K : Cut ww wc w1 wn isC isR pm) (hP : va_P D vwCl ww H) : va_P D vwCl wc H := by
  obtain ⟨wr, h1, h2, h3, h4, h5, h6, h7⟩ := K
  exact hP.sub isC (fm_of_map _ _ _ h2)
theorem callVi {r0 : Int32} {As rest : List Value} {isC isR pm : List Nat} {q0 ci : Nat} {qc : vw_C} {fs : List Value} (S : CallFix p m c cc nL s args Ts own) (hM : Ct l y ws ⟨fr, 0, 0, lo⟩ (.ref b :: As) D cI cC wc H.size (fun A => QI D cI cC A w1 r0)) (cw : CallW R s args own C index y bytes maxL ret ws ⟨fr, 0, 0, lo⟩ 0 0 n)
    (hK : va_K D vwCl (tyU cI cC) s) (hP : va_P D vwCl ww H) (hD : va_D A ww) (hS : va_S A s.heap H locs) (hA : ∀ q, s.heap.size ≤ q → A q) (hG : GP A s) (K : Cut ww wc w1 wn isC isR pm) (hc : vwCl[ci]? = some qc) (hC : qc.1 = C) (he : wc[q0]? = some (b, .inr (ci, fs)))
    (hn : As.length = n) (hsz : ls.size = nL) (hst : st = As.reverse ++ .ref b :: rest) (hW : (rest.map fun v => v.category).sum ≤ 8) (hf : cells ≤ R.cells ∧ slots ≤ R.slots) (hdg : decode cc pc = .ok (.invokevirtual index, 3))
    (kk : ∀ (H1 : Heap) (locs1 : List Loc), va_P D vwCl wn H1 → va_D A wn → va_S A s.heap H1 locs1 → W p l e R s m args below meth c H1 locs1 cells slots Q (F0 m (pc + 3) ls (.int r0 :: rest))) : W p l e R s m args below meth c H locs cells slots Q (F0 m pc ls st) := by
  subst hst
  subst hC
  have hF := K.ff hD hS hA
  refine va_calli (va_runV (As := As) (rest := rest) S hM cw ⟨PreW.blind, va_recv hK (K.P hP) hc he, fun U hU hW => ⟨rfl, K.pre hK hP hD hS hA hG U hU hW⟩⟩ rfl hn hsz rfl (lv_room hW) hdg hf) hS (fun q _ h => hF q h) hF (fun r u t H1 locs1 ht hvm hw hB hz1 hk1 hS1 => ?_)
  obtain ⟨hP1, hK1, hD1⟩ := hB
  rw [ht] at hP1
  obtain ⟨hP2, hD2⟩ := K.join hP hD hk1 hF hP1 hD1
  rw [hw]
  exact kk H1 locs1 hP2 hD2 hS1
theorem callVv {As rest : List Value} {isC isR pm : List Nat} {q0 ci : Nat} {qc : vw_C} {fs : List Value} (S : CallFix p m c cc nL s args Ts own) (hM : Ct l y ws ⟨fr, 0, 0, lo⟩ (.ref b :: As) D cI cC wc H.size (fun A => QV D cI cC A w1)) (cw : CallW R s args own C index y bytes maxL ret ws ⟨fr, 0, 0, lo⟩ 0 0 n)
    (hK : va_K D vwCl (tyU cI cC) s) (hP : va_P D vwCl ww H) (hD : va_D A ww) (hS : va_S A s.heap H locs) (hA : ∀ q, s.heap.size ≤ q → A q) (hG : GP A s) (K : Cut ww wc w1 wn isC isR pm) (hc : vwCl[ci]? = some qc) (hC : qc.1 = C) (he : wc[q0]? = some (b, .inr (ci, fs)))
    (hn : As.length = n) (hsz : ls.size = nL) (hst : st = As.reverse ++ .ref b :: rest) (hW : (rest.map fun v => v.category).sum ≤ 8) (hf : cells ≤ R.cells ∧ slots ≤ R.slots) (hdg : decode cc pc = .ok (.invokevirtual index, 3))
    (kk : ∀ (H1 : Heap) (locs1 : List Loc), va_P D vwCl wn H1 → va_D A wn → va_S A s.heap H1 locs1 → W p l e R s m args below meth c H1 locs1 cells slots Q (F0 m (pc + 3) ls rest)) : W p l e R s m args below meth c H locs cells slots Q (F0 m pc ls st) := by
  subst hst
  subst hC
  have hF := K.ff hD hS hA
  refine va_callv (va_runV (As := As) (rest := rest) S hM cw ⟨PreW.blind, va_recv hK (K.P hP) hc he, fun U hU hW => ⟨rfl, K.pre hK hP hD hS hA hG U hU hW⟩⟩ rfl hn hsz rfl (lv_room hW) hdg hf) hS (fun q _ h => hF q h) hF (fun u t H1 locs1 ht hvm hw hB hz1 hk1 hS1 => ?_)
  obtain ⟨hP1, hK1, hD1⟩ := hB
  rw [ht] at hP1
  obtain ⟨hP2, hD2⟩ := K.join hP hD hk1 hF hP1 hD1
  exact kk H1 locs1 hP2 hD2 hS1
theorem callVr {r0 : Nat} {As rest : List Value} {isC isR pm : List Nat} {q0 ci : Nat} {qc : vw_C} {fs : List Value} (S : CallFix p m c cc nL s args Ts own) (hM : Ct l y ws ⟨fr, 0, 0, lo⟩ (.ref b :: As) D cI cC wc H.size (fun A => QR D cI cC A w1 r0)) (cw : CallW R s args own C index y bytes maxL ret ws ⟨fr, 0, 0, lo⟩ 0 0 n)
    (hK : va_K D vwCl (tyU cI cC) s) (hP : va_P D vwCl ww H) (hD : va_D A ww) (hS : va_S A s.heap H locs) (hA : ∀ q, s.heap.size ≤ q → A q) (hG : GP A s) (K : Cut ww wc w1 wn isC isR pm) (hc : vwCl[ci]? = some qc) (hC : qc.1 = C) (he : wc[q0]? = some (b, .inr (ci, fs)))
    (hn : As.length = n) (hsz : ls.size = nL) (hst : st = As.reverse ++ .ref b :: rest) (hW : (rest.map fun v => v.category).sum ≤ 8) (hf : cells ≤ R.cells ∧ slots ≤ R.slots) (hdg : decode cc pc = .ok (.invokevirtual index, 3))
    (kk : ∀ (H1 : Heap) (locs1 : List Loc), va_P D vwCl wn H1 → va_D A wn → va_S A s.heap H1 locs1 → W p l e R s m args below meth c H1 locs1 cells slots Q (F0 m (pc + 3) ls (.ref r0 :: rest))) : W p l e R s m args below meth c H locs cells slots Q (F0 m pc ls st) := by
  subst hst
  subst hC
  have hF := K.ff hD hS hA
  refine va_callr (va_runV (As := As) (rest := rest) S hM cw ⟨PreW.blind, va_recv hK (K.P hP) hc he, fun U hU hW => ⟨rfl, K.pre hK hP hD hS hA hG U hU hW⟩⟩ rfl hn hsz rfl (lv_room hW) hdg hf) hS (fun q _ h => hF q h) hF (fun u ra t H1 locs1 ht hvm hw hB hz1 hk1 hS1 => ?_)
  obtain ⟨hr, hP1, hK1, hD1⟩ := hB
  rw [ht] at hP1
  obtain ⟨hP2, hD2⟩ := K.join hP hD hk1 hF hP1 hD1
  rw [hr]
  exact kk H1 locs1 hP2 hD2 hS1
theorem callSi {r0 : Int32} {As rest : List Value} {isC isR pm : List Nat} (S : CallFix p m c cc nL s args Ts own) (hM : Ct l y ws ⟨fr, 0, 0, lo⟩ As D cI cC wc H.size (fun A => QI D cI cC A w1 r0)) (cw : CallB R s args own index y bytes maxL ret ws ⟨fr, 0, 0, lo⟩ 0 0 n ∧ (Cond.static y).before args s = true)
    (hK : va_K D vwCl (tyU cI cC) s) (hP : va_P D vwCl ww H) (hD : va_D A ww) (hS : va_S A s.heap H locs) (hA : ∀ q, s.heap.size ≤ q → A q) (hG : GP A s) (K : Cut ww wc w1 wn isC isR pm)
    (hn : As.length = n) (hsz : ls.size = nL) (hst : st = As.reverse ++ rest) (hW : (rest.map fun v => v.category).sum ≤ 8) (hf : cells ≤ R.cells ∧ slots ≤ R.slots) (hdg : decode cc pc = .ok (.invokestatic index, 3))
    (kk : ∀ (H1 : Heap) (locs1 : List Loc), va_P D vwCl wn H1 → va_D A wn → va_S A s.heap H1 locs1 → W p l e R s m args below meth c H1 locs1 cells slots Q (F0 m (pc + 3) ls (.int r0 :: rest))) : W p l e R s m args below meth c H locs cells slots Q (F0 m pc ls st) := by
  subst hst
  have hF := K.ff hD hS hA
  refine va_calli (va_runS (As := As) (rest := rest) S hM cw ⟨PreW.blind, fun U hU hW => ⟨rfl, K.pre hK hP hD hS hA hG U hU hW⟩⟩ rfl hn hsz rfl (lv_room hW) hdg hf) hS (fun q _ h => hF q h) hF (fun r u t H1 locs1 ht hvm hw hB hz1 hk1 hS1 => ?_)
  obtain ⟨hP1, hK1, hD1⟩ := hB
  rw [ht] at hP1
  obtain ⟨hP2, hD2⟩ := K.join hP hD hk1 hF hP1 hD1
  rw [hw]
  exact kk H1 locs1 hP2 hD2 hS1
theorem callSv {As rest : List Value} {isC isR pm : List Nat} (S : CallFix p m c cc nL s args Ts own) (hM : Ct l y ws ⟨fr, 0, 0, lo⟩ As D cI cC wc H.size (fun A => QV D cI cC A w1)) (cw : CallB R s args own index y bytes maxL ret ws ⟨fr, 0, 0, lo⟩ 0 0 n ∧ (Cond.static y).before args s = true)
    (hK : va_K D vwCl (tyU cI cC) s) (hP : va_P D vwCl ww H) (hD : va_D A ww) (hS : va_S A s.heap H locs) (hA : ∀ q, s.heap.size ≤ q → A q) (hG : GP A s) (K : Cut ww wc w1 wn isC isR pm)
    (hn : As.length = n) (hsz : ls.size = nL) (hst : st = As.reverse ++ rest) (hW : (rest.map fun v => v.category).sum ≤ 8) (hf : cells ≤ R.cells ∧ slots ≤ R.slots) (hdg : decode cc pc = .ok (.invokestatic index, 3))
    (kk : ∀ (H1 : Heap) (locs1 : List Loc), va_P D vwCl wn H1 → va_D A wn → va_S A s.heap H1 locs1 → W p l e R s m args below meth c H1 locs1 cells slots Q (F0 m (pc + 3) ls rest)) : W p l e R s m args below meth c H locs cells slots Q (F0 m pc ls st) := by
  subst hst
  have hF := K.ff hD hS hA
  refine va_callv (va_runS (As := As) (rest := rest) S hM cw ⟨PreW.blind, fun U hU hW => ⟨rfl, K.pre hK hP hD hS hA hG U hU hW⟩⟩ rfl hn hsz rfl (lv_room hW) hdg hf) hS (fun q _ h => hF q h) hF (fun u t H1 locs1 ht hvm hw hB hz1 hk1 hS1 => ?_)
  obtain ⟨hP1, hK1, hD1⟩ := hB
  rw [ht] at hP1
  obtain ⟨hP2, hD2⟩ := K.join hP hD hk1 hF hP1 hD1
  exact kk H1 locs1 hP2 hD2 hS1
theorem callNi {r0 : Int32} {As rest : List Value} {isC isR pm : List Nat} {host : String} (S : CallFix p m c cc nL s args Ts own) (hM : Ct l y ws ⟨fr, 0, 0, lo⟩ As D cI cC wc H.size (fun A => QI D cI cC A w1 r0)) (cw : va_CN R s args own index y host bytes maxL ret ws ⟨fr, 0, 0, lo⟩ 0 0 n ∧ (Cond.static y).before args s = true ∧ True)
    (hK : va_K D vwCl (tyU cI cC) s) (hP : va_P D vwCl ww H) (hD : va_D A ww) (hS : va_S A s.heap H locs) (hA : ∀ q, s.heap.size ≤ q → A q) (hG : GP A s) (K : Cut ww wc w1 wn isC isR pm)
    (hn : As.length = n) (hsz : ls.size = nL) (hst : st = As.reverse ++ rest) (hW : (rest.map fun v => v.category).sum ≤ 8) (hf : cells ≤ R.cells ∧ slots ≤ R.slots) (hdg : decode cc pc = .ok (.invokestatic index, 3))
    (kk : ∀ (H1 : Heap) (locs1 : List Loc), va_P D vwCl wn H1 → va_D A wn → va_S A s.heap H1 locs1 → W p l e R s m args below meth c H1 locs1 cells slots Q (F0 m (pc + 3) ls (.int r0 :: rest))) : W p l e R s m args below meth c H locs cells slots Q (F0 m pc ls st) := by
  subst hst
  have hF := K.ff hD hS hA
  refine va_calli (va_runSN (As := As) (rest := rest) S hM cw ⟨PreW.blind, fun U hU hW => ⟨rfl, K.pre hK hP hD hS hA hG U hU hW⟩⟩ rfl hn hsz rfl (lv_room hW) hdg hf) hS (fun q _ h => hF q h) hF (fun r u t H1 locs1 ht hvm hw hB hz1 hk1 hS1 => ?_)
  obtain ⟨hP1, hK1, hD1⟩ := hB
  rw [ht] at hP1
  obtain ⟨hP2, hD2⟩ := K.join hP hD hk1 hF hP1 hD1
  rw [hw]
  exact kk H1 locs1 hP2 hD2 hS1
end CALLS
/-! pure programs: how they are put together, and taken apart -/
def inb (i : Int32) (n : Nat) : Bool := !decide (i < 0) && decide (i.toNatClampNeg < n)
theorem inb_in {i : Int32} {n : Nat} (h : inb i n = true) : vp_in i n := by
  simp only [inb, Bool.and_eq_true, Bool.not_eq_true', decide_eq_false_iff_not, decide_eq_true_eq] at h
  intro q
  rcases q with q | q
  · exact h.1 q
  · omega
def jn {α β : Type} (k : α → Option β) (b : (α → Option β) → Option β) : Option β := b k
def gd {β : Type} (b : Bool) (x : Option β) : Option β := if b = true then x else none
theorem gd_e {β : Type} {b : Bool} {x : Option β} {y : β} (h : gd b x = some y) : b = true ∧ x = some y := by
  unfold gd at h
  by_cases hb : b = true
  · rw [if_pos hb] at h; exact ⟨hb, h⟩
  · rw [if_neg hb] at h; cases h
theorem ip {c : Prop} [Decidable c] {β : Type} {x y : Option β} {z : β} (hc : c) (h : (if c then x else y) = some z) : x = some z := by rwa [if_pos hc] at h
theorem iq {c : Prop} [Decidable c] {β : Type} {x y : Option β} {z : β} (hc : ¬ c) (h : (if c then x else y) = some z) : y = some z := by rwa [if_neg hc] at h
theorem jn_e {α β : Type} {k : α → Option β} {b : (α → Option β) → Option β} {y : β} (h : jn k b = some y) : ∃ kk : α → Option β, (∀ v, kk v = some y → k v = some y) ∧ b kk = some y := ⟨k, fun _ h => h, h⟩
theorem bd_e {α β : Type} {x : Option α} {k : α → Option β} {y : β} (h : x.bind k = some y) : ∃ r, x = some r ∧ k r = some y := by
  cases x with
  | none => cases h
  | some r => exact ⟨r, rfl, h⟩
def bz (v : Int32) : Bool := v == 0 || v == 1
theorem bz_n {v : Int32} (h : bz v = true) : narrow .boolean (.int v) = .int v := by
  simp only [bz, Bool.or_eq_true, beq_iff_eq] at h
  rcases h with rfl | rfl <;> rfl
