/-! a thrown object caught by a row of the method's own table -/
section CATS
/-- a row that covers the place and names a class: what the search goes on with -/
theorem ca_row {e : Env} {S : State} {f : JFrame} {q : Addr} {x : ExceptionTableEntry} {t : List ExceptionTableEntry} {k : ClassId} {ce : Cell} (hx : covers x f.pc = true) (h0 : x.catchType ≠ 0) (hl : S.vm.ClassLinks e.platform f.method.cls x.catchType k) (hc : S.heap[q]? = some ce) (hv : ce.vm = .none) {j1 j2 : Class} (h1 : S.vm.classes[ce.cls]? = some j1) (h2 : S.vm.classes[k]? = some j2)
    (Q : Handler → Jvm.Pre) (E : CtlPost) (d : Bool) (acts : List Action) : wp (findHandler.go f q (x :: t)) Q E e d acts S ↔
      if S.vm.assignable ce.cls k = true then Q (.found x.handlerPc) d acts (S.setVm (S.vm.noted f.method.cls x.catchType (.cls k))) else wp (findHandler.go f q t) Q E e d acts (S.setVm (S.vm.noted f.method.cls x.catchType (.cls k))) := by
  have hA : S.vm.Alike (S.vm.noted f.method.cls x.catchType (.cls k)) := Vm.Alike.noted (Vm.Alike.refl S.vm) _ _ _
  have hob : ∀ z, ce.vm ≠ .statics z := fun z hz => by rw [hv] at hz; cases hz
  obtain ⟨i1, hi1, -⟩ := hA.2.2 _ _ h1
  obtain ⟨i2, hi2, -⟩ := hA.2.2 _ _ h2
  have hr := (resolveClass_links e.toSetting hl).op (op := VmOp.resolveClass f.method.cls x.catchType) rfl
  have hcov : (decide (x.startPc ≤ f.pc) && decide (f.pc < x.endPc)) = true := hx
  cases ha : S.vm.assignable ce.cls k
  · have hb : (S.vm.noted f.method.cls x.catchType (.cls k)).assignable ce.cls k = false := (hA.assignable ..).trans ha
    simp [findHandler.go, hcov, h0, hr.1, hr.2, hc, hob, hi1, hi2, hb, VmOp.dirties, VmOp.acts]
  · have hb : (S.vm.noted f.method.cls x.catchType (.cls k)).assignable ce.cls k = true := (hA.assignable ..).trans ha
    simp [findHandler.go, hcov, h0, hr.1, hr.2, hc, hob, hi1, hi2, hb, VmOp.dirties, VmOp.acts]
/-- the rows ahead, then the row that takes it -/
theorem ca_rows {e : Env} {s : State} {f : JFrame} {q : Addr} {ce : Cell} {j : Class} {k : ClassId} {x : ExceptionTableEntry} {suf : List ExceptionTableEntry} (hv : ce.vm = .none) (hj : s.vm.classes[ce.cls]? = some j) (hx : covers x f.pc = true) (h0 : x.catchType ≠ 0) (hl : s.vm.ClassLinks e.platform f.method.cls x.catchType k) (ha : s.vm.assignable ce.cls k = true) :
    ∀ (pre : List ExceptionTableEntry) (S : State), s.WarmedH S.vm → S.heap[q]? = some ce → (∀ z ∈ pre, covers z f.pc = true → z.catchType ≠ 0 ∧ ∃ i, s.vm.ClassLinks e.platform f.method.cls z.catchType i ∧ s.vm.assignable ce.cls i = false) →
      ∃ vm1, s.WarmedH vm1 ∧ ∀ (Q : Handler → Jvm.Pre) (E : CtlPost) (d : Bool) (acts : List Action), wp (findHandler.go f q (pre ++ x :: suf)) Q E e d acts S ↔ Q (.found x.handlerPc) d acts (S.setVm vm1)
  | [], S, hW, hc, _ => by
    obtain ⟨i1, hi1, -⟩ := hW.alike.2.2 _ _ hj
    obtain ⟨dk, _, _, kt, hd, _, _, _, _, hkt, _, hopen⟩ := hl.here
    obtain ⟨i2, hi2, -⟩ := hW.alike.2.2 _ _ hkt
    refine ⟨_, hW.noted hd hopen (State.rightAt_cls hl), fun Q E d acts => ?_⟩
    have h := ca_row (t := suf) hx h0 (hW.classLinks hl) hc hv hi1 hi2 Q E d acts
    rwa [if_pos ((hW.alike.assignable ..).trans ha)] at h
  | z :: zs, S, hW, hc, hp => by
    have hp2 : ∀ z ∈ zs, covers z f.pc = true → z.catchType ≠ 0 ∧ ∃ i, s.vm.ClassLinks e.platform f.method.cls z.catchType i ∧ s.vm.assignable ce.cls i = false := fun y hy => hp y (List.mem_cons_of_mem _ hy)
    cases hz : covers z f.pc
    · obtain ⟨v1, w1, h⟩ := ca_rows (suf := suf) hv hj hx h0 hl ha zs S hW hc hp2
      exact ⟨v1, w1, fun Q E d acts => (W.findHandler_go_skip hz).trans (h Q E d acts)⟩
    · obtain ⟨hz0, i, hli, hai⟩ := hp z List.mem_cons_self hz
      obtain ⟨i1, hi1, -⟩ := hW.alike.2.2 _ _ hj
      obtain ⟨dk, _, _, kt, hd, _, _, _, _, hkt, _, hopen⟩ := hli.here
      obtain ⟨i2, hi2, -⟩ := hW.alike.2.2 _ _ hkt
      obtain ⟨v1, w1, h⟩ := ca_rows (suf := suf) hv hj hx h0 hl ha zs (S.setVm (S.vm.noted f.method.cls z.catchType (.cls i))) (hW.noted hd hopen (State.rightAt_cls hli)) hc hp2
      refine ⟨v1, w1, fun Q E d acts => ?_⟩
      have h9 := ca_row (t := zs ++ x :: suf) hz hz0 (hW.classLinks hli) hc hv hi1 hi2 Q E d acts
      rw [if_neg (by rw [hW.alike.assignable, hai]; decide)] at h9
      exact h9.trans (h Q E d acts)
theorem ca_step {e : Env} {S : State} {q : Addr} {f : JFrame} {r : List Frame} {pc : Nat} {v1 : Vm} (hfind : ∀ (Q : Handler → Jvm.Pre) (E : CtlPost) (d : Bool) (acts : List Action), wp (findHandler f q) Q E e d acts S ↔ Q (.found pc) d acts (S.setVm v1)) :
    (stepThrowing e S q (.java f :: r)).1 = (S.setVm v1).setFrames (.java { f with pc := pc, stack := [.ref q] } :: r) := by
  simp only [stepThrowing, searchFrame, vmDo]
  generalize hr : Sem.go _ e false [] S = res
  obtain ⟨as, rfl, -⟩ := Sem.eq_ok_of hr (a := Handler.found pc) (s' := S.setVm v1) (acts' := []) (by simp [hfind _ _ _ _])
  rfl
/-- caught: the walk goes on at the handler, the object alone on the stack -/
theorem ca_catch {p : Program} {l : Launch} {e : Env} {R : Room} {s : State} {m : MethodId} {args : Array Value} {below : List Frame} {meth : Method} {c : Code} {H : Heap} {locs : List Loc} {cells slots pc : Nat} {Q : State → Prop} {ls : Array Slot} {rest : List Value} {own name E : String} {ce : Cell} {q : Addr} (hown : s.vm.findClass own = some m.cls) {pre suf : List ExceptionTableEntry} {x : ExceptionTableEntry} (hsp : c.exceptionTable.toList = pre ++ x :: suf)
    (hp : ∀ z ∈ pre, z.catchType ≠ 0 ∧ ∃ nm : String, (Cond.classLink own z.catchType nm).before args s = true ∧ va_Nc E nm s) (hx : covers x pc = true) (h0 : x.catchType ≠ 0) (hlk : (Cond.classLink own x.catchType name).before args s = true) (hca : (Cond.castable E name).before args s = true) (hce : H[q]? = some ce) (hv : ce.vm = .none) (hcl : s.vm.findClass E = some ce.cls)
    (kk : W p l e R s m args below meth c H locs cells slots Q (F0 m x.handlerPc ls [.ref q])) : vx_W p l e R s m args below meth c H locs cells slots Q (F0 m pc ls rest) q := by
  intro T hT X
  have hpl : e.platform.magicAccessors = ({} : Platform).magicAccessors := by rw [X.admits.platform]
  obtain ⟨a1, a2, hc1, hc2, hasg⟩ := Cond.castable_spec hca
  cases Option.some.inj (hc1.symm.trans hcl)
  obtain ⟨a3, hc3, hl3⟩ := Cond.classLink_spec hown hlk e.platform hpl
  cases Option.some.inj (hc2.symm.trans hc3)
  obtain ⟨j, hj, -⟩ := Vm.findClass_spec hcl
  obtain ⟨g0, hfr⟩ := X.frames_eq
  obtain ⟨v1, w1, h⟩ := ca_rows (e := e) (s := s) (f := F0 m pc ls rest) (q := q) (suf := suf) hv hj hx h0 hl3 hasg pre ((T.setTop (F0 m pc ls rest)).pushFrame (.throwing q)) X.warmed (show T.heap[q]? = some ce by rw [hT]; exact hce) (fun z hz hz1 => by
    obtain ⟨hz0, nm, hl1, b1, b2, k1, k2, k3⟩ := hp z hz
    obtain ⟨i, hi, hli⟩ := Cond.classLink_spec hown hl1 e.platform hpl
    cases Option.some.inj (k1.symm.trans hcl)
    cases Option.some.inj (k2.symm.trans hi)
    exact ⟨hz0, _, hli, k3⟩)
  obtain ⟨t, st, hQ⟩ := kk (T.setVm v1) hT (X.noted w1)
  refine ⟨t, ?_, hQ⟩
  have hat : At T (F0 m pc ls rest).method c below := X.here
  obtain ⟨hgo, hwi⟩ := hat.throwing q
  refine Steps.head hgo hwi ?_
  have hfind : ∀ (Q : Handler → Jvm.Pre) (E : CtlPost) (d : Bool) (acts : List Action), wp (findHandler (F0 m pc ls rest) q) Q E e d acts ((T.setTop (F0 m pc ls rest)).pushFrame (.throwing q)) ↔ Q (.found x.handlerPc) d acts (((T.setTop (F0 m pc ls rest)).pushFrame (.throwing q)).setVm v1) := fun Q E d acts => by
    rw [W.findHandler_eq (meth := meth) (code := c) X.method' X.code, hsp]
    exact h Q E d acts
  have hfr1 : ((T.setTop (F0 m pc ls rest)).pushFrame (.throwing q)).frames = .throwing q :: .java (F0 m pc ls rest) :: below := by
    rw [frames_entered hat.top, hfr]
    rfl
  rw [stepThread_throwing hfr1, ca_step hfind]
  have hfr2 : (T.setVm v1).frames = .java g0 :: below := hfr
  rw [State.setTop_of_frames _ hfr2] at st
  have hE : (((T.setTop (F0 m pc ls rest)).pushFrame (.throwing q)).setVm v1).setFrames (.java (F0 m x.handlerPc ls [.ref q]) :: below) = (T.setVm v1).setFrames (.java (F0 m x.handlerPc ls [.ref q]) :: below) := by
    rw [State.pushFrame, State.setTop_of_frames _ hfr]
    have h9 : ∀ X, (T.setFrames X).setVm v1 = (T.setVm v1).setFrames X := fun _ => rfl
    simp only [State.setFrames_setFrames, h9]
  rw [hE]
  exact st
end CATS
