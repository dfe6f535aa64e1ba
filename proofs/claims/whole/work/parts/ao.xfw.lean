/-! contracts of methods that throw -/
section XFWS
def sDn : List String := ["java/lang/RuntimeException", "java/lang/Exception", "java/lang/Throwable"]
/-- what a throw asks of the world, and which of the exceptions is no other -/
def EW (A : Nat → Prop) (U : State) (H : Heap) : Prop := ((∃ a, vk_R RX8 195 "there is no such stage" a U) ∧ (∃ a, vk_R RX8 202 "the stage has no value" a U) ∧ (∃ a, vk_R RX8 214 "there is no such stage or what" a U) ∧ (∃ a, vk_R RX8 220 "the stage did not fail" a U) ∧ ∃ a, vk_R RX8 228 "there is no failure at this place" a U) ∧
  (vx_Zq Jvm.Bundle.tN "UNASSIGNED_STACK" Jvm.Bundle.steD A U H ∧ vx_Zq Jvm.Bundle.tN "SUPPRESSED_SENTINEL" Jvm.Bundle.listD A U H) ∧
  va_Nc "java/lang/IllegalStateException" "java/lang/IllegalArgumentException" U ∧ va_Nc "java/lang/IndexOutOfBoundsException" "java/lang/IllegalArgumentException" U ∧ va_Nc "java/lang/IndexOutOfBoundsException" "java/lang/IllegalStateException" U ∧ ∀ X ∈ sDn, va_Nw (.declares (Jvm.Bundle.initS X)) U
theorem EW.warm {A : Nat → Prop} {u U : State} {H : Heap} (hW : u.WarmedH U.vm) (h : EW A u H) : EW A U H := by
  obtain ⟨⟨⟨a1, h1⟩, ⟨a2, h2⟩, ⟨a3, h3⟩, ⟨a4, h4⟩, a5, h5⟩, ⟨z1, z2⟩, n1, n2, n3, n4⟩ := h
  exact ⟨⟨⟨a1, vk_R.warm hW h1⟩, ⟨a2, vk_R.warm hW h2⟩, ⟨a3, vk_R.warm hW h3⟩, ⟨a4, vk_R.warm hW h4⟩, a5, vk_R.warm hW h5⟩, ⟨vx_Zq.moved hW.alike z1, vx_Zq.moved hW.alike z2⟩, va_Nc.moved hW.alike n1, va_Nc.moved hW.alike n2, va_Nc.moved hW.alike n3, fun X hX => va_Nw.warmD hW (n4 X hX)⟩
theorem EW.same {A : Nat → Prop} {u U : State} {H : Heap} (hv : u.vm = U.vm) (h : EW A u H) : EW A U H := by
  have hA : u.vm.Alike U.vm := hv ▸ Vm.Alike.refl u.vm
  obtain ⟨⟨⟨a1, h1⟩, ⟨a2, h2⟩, ⟨a3, h3⟩, ⟨a4, h4⟩, a5, h5⟩, ⟨z1, z2⟩, n1, n2, n3, n4⟩ := h
  exact ⟨⟨⟨a1, vk_R.same hv.symm h1⟩, ⟨a2, vk_R.same hv.symm h2⟩, ⟨a3, vk_R.same hv.symm h3⟩, ⟨a4, vk_R.same hv.symm h4⟩, a5, vk_R.same hv.symm h5⟩, ⟨vx_Zq.moved hA z1, vx_Zq.moved hA z2⟩, va_Nc.moved hA n1, va_Nc.moved hA n2, va_Nc.moved hA n3, fun X hX => va_Nw.same rfl hv (n4 X hX)⟩
theorem EW.kept {A : Nat → Prop} {U : State} {H H1 : Heap} (h : EW A U H) (hq : ∀ a : Nat, a < H.size → ¬ A a → H1[a]? = H[a]?) : EW A U H1 := ⟨h.1, ⟨h.2.1.1.kept hq, h.2.1.2.kept hq⟩, h.2.2⟩
theorem EW.narrow {A B : Nat → Prop} {U : State} {H : Heap} (h : EW A U H) (hAB : ∀ q, B q → A q) : EW B U H := ⟨h.1, ⟨h.2.1.1.narrow hAB, h.2.1.2.narrow hAB⟩, h.2.2⟩
def PCX (Y : YT) (G : GH) (sz : Nat) (av : List AV) : Array Value → State → Prop := fun a U => PC Y G sz av a U ∧ EW (GA G sz) U U.heap
def XCX (Y : YT) (G : GH) (sz : Nat) (pX : String → GH → Prop) : String → State → State → Prop := fun E st t => ∃ G', pX E G' ∧ (∃ L, GL G' L ∧ va_P Y.1 vwCl (va_pl L (cf Y G')) t.heap ∧ va_D (GA G sz) (va_pl L (cf Y G'))) ∧ va_F (GA G sz) st t
/-- the contract of a method that returns or throws -/
def CtX (l : Launch) (y : MethodName) (cc : ByteArray) (maxL : Nat) (ret : Option FieldType) (rm : Room) (Y : YT) (av : List AV) (G : GH) (post : Option AV → GH → Prop) (pX : String → GH → Prop) : Prop :=
  ∀ sz : Nat, vx_Met l y (.code y cc maxL ret :: tg) rm (PCX Y G sz av) (QC Y G sz post) (XCX Y G sz pX) rm.cells rm.slots (GA G sz)
def QMX (below : List Frame) (args : Array Value) (s : State) (rm : Room) (Y : YT) (G : GH) (post : Option AV → GH → Prop) (pX : String → GH → Prop) : State → Prop := vx_MQ below (QC Y G s.heap.size post) (XCX Y G s.heap.size pX) args s rm.cells rm.slots (GA G s.heap.size)
theorem PCX_blind {Y : YT} {G : GH} {sz : Nat} {av : List AV} : FrameBlind (PCX Y G sz av) := by
  intro a U g mk h
  exact ⟨PC_blind (Y := Y) (G := G) (sz := sz) (av := av) a U g mk h.1, EW.same (u := U) (U := U.calling g mk a) rfl h.2⟩
theorem CtX.of {l : Launch} {y : MethodName} {cc : ByteArray} {maxL : Nat} {ret : Option FieldType} {rm : Room} {Y : YT} {av : List AV} {G : GH} {post : Option AV → GH → Prop} {pX : String → GH → Prop} (hy : plainName y.cls = true) (hs : av.all sm = true) (hl : av.length ≤ maxL)
    (body : ∀ (p : Program) (e : Env) (s : State) (m : MethodId) (args : Array Value) (below : List Frame) (meth : Method) (c : Code), Cx p s m args c meth Y (GA G s.heap.size) y.cls cc False → Rx meth c ret maxL → (∀ x ∈ c.exceptionTable.toList, False) → EW (GA G s.heap.size) s s.heap → V p l e rm s m args below meth c Y (GA G s.heap.size) (QMX below args s rm Y G post pX) 0 G 0 0 (lc0 av maxL) []) : CtX l y cc maxL ret rm Y av G post pX := by
  intro sz
  refine vx_ofW (cc := cc) (maxL := maxL) (ret := ret) hy rfl ?_
  intro p e s m args below meth c s₁ B hml ht hv
  obtain ⟨⟨rfl, hsz, ⟨L, hL, hP, hD⟩, hK⟩, hE⟩ := hv
  subst hsz
  have hts := atoms_spec (ws := .code y cc maxL ret :: tg) B.pre
  have hown : s.vm.findClass y.cls = some m.cls := findClass_of_methodNamed B.named
  have C : Cx p s m (av.map cvv).toArray c meth Y (GA G s.heap.size) y.cls cc False := ⟨B.exec, B.bytes, hown, fun w hw => hts w (List.mem_cons_of_mem _ hw), hK, fun q h => Or.inr h, False.elim⟩
  have h0 := body p e s m (av.map cvv).toArray below meth c C ⟨B.returns, B.notSynchronized, hml⟩ ht hE L s.heap []
    ((lg_sl (av.map cvv) ++ List.replicate (maxL - (lg_sl (av.map cvv)).length) Slot.unset).toArray) hL hP ⟨hD.1, fun k q hk => ?_⟩ va_S.rf (lcs_entry hs hl)
  · rw [lg_entry_eq]
    exact h0
  · refine Or.inl ?_
    obtain ⟨a, ha, rfl⟩ := List.mem_map.mp (List.mem_of_getElem? hk)
    exact (hL a).mp ha
section XRET
variable {p : Program} {l : Launch} {e : Env} {rm : Room} {s : State} {m : MethodId} {args : Array Value} {below : List Frame} {meth : Method} {c : Code} {Y : YT} {G0 G : GH} {post : Option AV → GH → Prop} {pX : String → GH → Prop} {own : String} {cc : ByteArray} {ini : Prop} {pc n k maxL : Nat} {lc : List (Option AV)} {st : List AV} {ret : Option FieldType} {A : Nat → Prop}
theorem V_x (h : V p l e rm s m args below meth c Y A (QM below args s rm Y G0 post) pc G n k lc st) : V p l e rm s m args below meth c Y A (QMX below args s rm Y G0 post pX) pc G n k lc st :=
  fun L H locs ls h1 h2 h3 h4 h5 => vx_ret (h L H locs ls h1 h2 h3 h4 h5)
/-- throw new E("text") -/
theorem V_throw {cls text : String} {names : List String} {ik is ic sa : Nat} (C : Cx p s m args c meth Y (GA G0 s.heap.size) own cc ini) (X : Rx meth c ret maxL) (hl : l.stackTraces = false) (hlc : lc.length = maxL) (hout : ∀ x ∈ c.exceptionTable.toList, False) (hE : EW (GA G0 s.heap.size) s s.heap) (hstr : vk_R own is text sa s)
    (hcls : Jvm.Bundle.fit cls = true) (hnames : ∀ n ∈ names, Jvm.Bundle.fit n = true) (hk : Cond.classLink own ik cls ∈ tg) (hini : Cond.initialized cls ∈ tg) (hat : ∀ w ∈ (vx_atS own ic cls names).filter goodWord, w ∈ tg) (hat2 : ∀ w ∈ (vx_atS own ic cls names).filter (fun w => !goodWord w), w ∈ [Cond.castable cls cls, Cond.declares (Jvm.Bundle.initS "java/lang/RuntimeException"), Cond.declares (Jvm.Bundle.initS "java/lang/Exception"), Cond.declares (Jvm.Bundle.initS "java/lang/Throwable")]) (hca : (cls, cls) ∈ tnC)
    (hgood : ∀ w ∈ Cond.classLink own ik cls :: Cond.initialized cls :: vx_atS own ic cls names, vx_ot w = true)
    (d0 : decode cc pc = .ok (.new ik, 3)) (d3 : decode cc (pc + 3) = .ok (.dup, 1)) (d4 : decode cc (pc + 4) = .ok (.ldc is, 2)) (d6 : decode cc (pc + 6) = .ok (.invokespecial ic, 3)) (d9 : decode cc (pc + 9) = .ok (.athrow, 1))
    (hR1 : names.length + 3 < rm.frames) (hR2 : 13 * (names.length + 1) + 43 ≤ rm.locals) (hR3 : n + 1 ≤ rm.cells) (hR4 : k + 6 ≤ rm.slots) (h : pX cls G) : V p l e rm s m args below meth c Y (GA G0 s.heap.size) (QMX below args s rm Y G0 post pX) pc G n k lc [] := by
  intro L H locs ls h1 h2 h3 h4 h5
  refine vx_throwS (A := GA G0 s.heap.size) (cc := cc) (pc := pc) (rest := []) C.1 C.2.1 hl C.2.2.1 hcls hnames (C.2.2.2.1 _ hk) (C.2.2.2.1 _ hini) hstr (vx_hat (fun w hw => C.2.2.2.1 w (hat w hw)) hat2 (vx_c (va_Nw.use rfl (C.2.2.2.2.1.2.2.2.2.2.1 _ hca)) (vx_c (va_Nw.use rfl (hE.2.2.2.2.2 _ (by decide))) (vx_c (va_Nw.use rfl (hE.2.2.2.2.2 _ (by decide))) (vx_c (va_Nw.use rfl (hE.2.2.2.2.2 _ (by decide))) vx_n))))) hgood hE.2.1.1 hE.2.1.2 h4 (h5.1.trans (hlc.trans X.2.2.symm)) d0 d3 d4 d6 d9 (fun x hx => (hout x hx).elim) hR1 (by simpa using hR2) hR3 hR4 X.2.1 ?_ h4.2.2 hR3 hR4
  intro t hal hsz hq
  refine ⟨G, h, ⟨L, h1, h2.kept (fun k q hk => hq _ (vx_lt h2 hk)), h3⟩, Nat.le_trans h4.1 hsz, fun q q1 q2 => ?_⟩
  rw [hq q (Nat.lt_of_lt_of_le q1 h4.1)]
  exact h4.2.1 q q1 q2
end XRET
end XFWS
