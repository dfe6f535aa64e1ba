/-! CONTRACTS over the pure heap, calls, returns -/
def GA (G : GH) (sz : Nat) : Nat → Prop := fun q => G q ≠ none ∨ sz ≤ q
def PC (Y : YT) (G : GH) (sz : Nat) (av : List AV) : Array Value → State → Prop := va_Pc (av.map cvv) (fun U => U.heap.size = sz ∧ (∃ L, GL G L ∧ va_P Y.1 vwCl (va_pl L (cf Y G)) U.heap ∧ va_D (fun _ => True) (va_pl L (cf Y G))) ∧ KE Y (GA G sz) U U.heap)
def QC (Y : YT) (G : GH) (sz : Nat) (post : Option AV → GH → Prop) : Array Value → State → Outcome → State → Prop := fun _ st oc t => ∃ r G', oc = .returned (r.map cvv) ∧ post r G' ∧ (∃ L, GL G' L ∧ va_P Y.1 vwCl (va_pl L (cf Y G')) t.heap ∧ va_D (GA G sz) (va_pl L (cf Y G'))) ∧ va_F (GA G sz) st t
/-- the contract of method y: with the arguments av and the heap G it returns, and post holds of its answer and of the heap then -/
def Ct (l : Launch) (y : MethodName) (cc : ByteArray) (maxL : Nat) (ret : Option FieldType) (rm : Room) (Y : YT) (av : List AV) (G : GH) (post : Option AV → GH → Prop) : Prop :=
  ∀ sz : Nat, Met l y (.code y cc maxL ret :: tg) rm (PC Y G sz av) (QC Y G sz post) rm.cells rm.slots (GA G sz)
/-- the rest of what a frame stands on: its return type, no lock, its locals -/
def Rx (meth : Method) (c : Code) (ret : Option FieldType) (maxL : Nat) : Prop := meth.sig.returnType = ret ∧ meth.locks = false ∧ c.maxLocals = maxL
/-- what a body must come to -/
def QM (below : List Frame) (args : Array Value) (s : State) (rm : Room) (Y : YT) (G : GH) (post : Option AV → GH → Prop) : State → Prop := MQ below (QC Y G s.heap.size post) args s rm.cells rm.slots (GA G s.heap.size)
theorem PC_blind {Y : YT} {G : GH} {sz : Nat} {av : List AV} : FrameBlind (PC Y G sz av) := by
  intro a U g mk h
  obtain ⟨h0, h1, h2, h3⟩ := h
  exact ⟨h0, h1, h2, KE.same (u := U) (U := U.calling g mk a) rfl h3⟩
theorem args_len {av : List AV} (h : av.all sm = true) : (lg_sl (av.map cvv)).length = av.length := by
  induction av with
  | nil => rfl
  | cons v t ih =>
    have h1 := List.all_cons ▸ h
    rw [Bool.and_eq_true] at h1
    have hv := sm_cat h1.1
    have ih' := ih h1.2
    simp only [lg_sl] at ih'
    simp [lg_sl, hv, ih']
theorem args_has {av : List AV} (h : av.all sm = true) : ∀ (n i : Nat) (v : AV), av[i]? = some v → (n + i, cvv v) ∈ lv_args n (av.map cvv) := by
  induction av with
  | nil => intro n i v hv; cases hv
  | cons w t ih =>
    intro n i v hv
    have h1 := List.all_cons ▸ h
    rw [Bool.and_eq_true] at h1
    have hw := sm_cat h1.1
    have e1 : lv_args n ((w :: t).map cvv) = (n, cvv w) :: lv_args (n + 1) (t.map cvv) := by simp [lv_args, hw]
    rw [e1]
    cases i with
    | zero => cases hv; exact List.mem_cons_self
    | succ i =>
      refine List.mem_cons_of_mem _ ?_
      have := ih h1.2 (n + 1) i v (by simpa using hv)
      rwa [show n + 1 + i = n + (i + 1) by omega] at this
def lc0 (av : List AV) (maxL : Nat) : List (Option AV) := av.map some ++ List.replicate (maxL - av.length) none
theorem lcs_entry {av : List AV} {maxL : Nat} (h : av.all sm = true) (hl : av.length ≤ maxL) : lcs ((lg_sl (av.map cvv) ++ List.replicate (maxL - (lg_sl (av.map cvv)).length) Slot.unset).toArray) (lc0 av maxL) := by
  have h9 := lv_entry (av.map cvv) (n := maxL) (by rw [args_len h]; exact hl)
  refine ⟨by rw [h9.1]; simp [lc0]; omega, h9.2.1, fun i v hv => ?_⟩
  have hi : av[i]? = some v := by
    unfold lc0 at hv
    rcases Nat.lt_or_ge i av.length with q | q
    · rw [List.getElem?_append_left (by simpa using q), List.getElem?_map] at hv
      cases hx : av[i]? with
      | none => rw [hx] at hv; cases hv
      | some w => rw [hx] at hv; cases hv; rfl
    · rw [List.getElem?_append_right (by simpa using q), List.getElem?_replicate] at hv
      split at hv <;> cases hv
  have hm := args_has h 0 i v hi
  rw [Nat.zero_add] at hm
  exact ⟨h9.2.2 _ hm, sm_cat (List.all_eq_true.mp h v (List.mem_of_getElem? hi))⟩
/-- a contract out of the walk of its body -/
theorem Ct.of {l : Launch} {y : MethodName} {cc : ByteArray} {maxL : Nat} {ret : Option FieldType} {rm : Room} {Y : YT} {av : List AV} {G : GH} {post : Option AV → GH → Prop} {ini : Prop} (hy : plainName y.cls = true) (hi : ini → y.name = "<init>") (hs : av.all sm = true) (hl : av.length ≤ maxL)
    (body : ∀ (p : Program) (e : Env) (s : State) (m : MethodId) (args : Array Value) (below : List Frame) (meth : Method) (c : Code), Cx p s m args c meth Y (GA G s.heap.size) y.cls cc ini → Rx meth c ret maxL → V p l e rm s m args below meth c Y (GA G s.heap.size) (QM below args s rm Y G post) 0 G 0 0 (lc0 av maxL) []) : Ct l y cc maxL ret rm Y av G post := by
  intro sz
  refine Met.ofW (cc := cc) (maxL := maxL) (ret := ret) hy rfl ?_
  intro p e s m args below meth c s₁ B hml hv
  obtain ⟨rfl, hsz, ⟨L, hL, hP, hD⟩, hK⟩ := hv
  subst hsz
  have hts := atoms_spec (ws := .code y cc maxL ret :: tg) B.pre
  have hown : s.vm.findClass y.cls = some m.cls := findClass_of_methodNamed B.named
  have C : Cx p s m (av.map cvv).toArray c meth Y (GA G s.heap.size) y.cls cc ini := ⟨B.exec, B.bytes, hown, fun w hw => hts w (List.mem_cons_of_mem _ hw), hK, fun q h => Or.inr h, fun h => (name_of_methodNamed B.named B.method).1.trans (hi h)⟩
  have h0 := body p e s m (av.map cvv).toArray below meth c C ⟨B.returns, B.notSynchronized, hml⟩ L s.heap []
    ((lg_sl (av.map cvv) ++ List.replicate (maxL - (lg_sl (av.map cvv)).length) Slot.unset).toArray) hL hP ⟨hD.1, fun k q hk => ?_⟩ va_S.rf (lcs_entry hs hl)
  · rw [lg_entry_eq]
    exact h0
  · refine Or.inl ?_
    obtain ⟨a, ha, rfl⟩ := List.mem_map.mp (List.mem_of_getElem? hk)
    exact (hL a).mp ha
section VRET
variable {p : Program} {l : Launch} {e : Env} {rm : Room} {s : State} {m : MethodId} {args : Array Value} {below : List Frame} {meth : Method} {c : Code} {Y : YT} {G0 G : GH} {post : Option AV → GH → Prop} {own : String} {cc : ByteArray} {ini : Prop} {pc n k maxL : Nat} {lc : List (Option AV)} {ret : Option FieldType}
theorem V_iret {x : Int32} (C : Cx p s m args c meth Y (GA G0 s.heap.size) own cc ini) (X : Rx meth c (some .int) maxL) (hd : decode cc pc = .ok (.ireturn, 1)) (hn : n ≤ rm.cells) (hk : k ≤ rm.slots) (h : post (some (.inl x)) G) : V p l e rm s m args below meth c Y (GA G0 s.heap.size) (QM below args s rm Y G0 post) pc G n k lc [.inl x] := by
  intro L H locs ls h1 h2 h3 h4 h5
  refine W.widen (k := rm.cells) (n := rm.slots) hn hk ?_
  exact W.iret (v := x) C.1 C.2.1 X.1 (fun t ht hW => ⟨some (.inl x), G, rfl, h, ⟨L, h1, by rw [ht]; exact h2, h3⟩, h4.F ht⟩) h4.2.2 hd X.2.1
theorem V_zret {x : Int32} (C : Cx p s m args c meth Y (GA G0 s.heap.size) own cc ini) (X : Rx meth c (some .boolean) maxL) (hd : decode cc pc = .ok (.ireturn, 1)) (hz : x = 0 ∨ x = 1) (hn : n ≤ rm.cells) (hk : k ≤ rm.slots) (h : post (some (.inl x)) G) : V p l e rm s m args below meth c Y (GA G0 s.heap.size) (QM below args s rm Y G0 post) pc G n k lc [.inl x] := by
  intro L H locs ls h1 h2 h3 h4 h5
  refine W.widen (k := rm.cells) (n := rm.slots) hn hk ?_
  exact W.zret (v := x) C.1 C.2.1 X.1 (nar_z hz).1 (fun t ht hW => ⟨some (.inl x), G, rfl, h, ⟨L, h1, by rw [ht]; exact h2, h3⟩, h4.F ht⟩) h4.2.2 hd X.2.1
theorem V_vret (C : Cx p s m args c meth Y (GA G0 s.heap.size) own cc ini) (X : Rx meth c none maxL) (hd : decode cc pc = .ok (.return_, 1)) (hn : n ≤ rm.cells) (hk : k ≤ rm.slots) (h : post none G) : V p l e rm s m args below meth c Y (GA G0 s.heap.size) (QM below args s rm Y G0 post) pc G n k lc [] := by
  intro L H locs ls h1 h2 h3 h4 h5
  refine W.widen (k := rm.cells) (n := rm.slots) hn hk ?_
  exact W.vret C.1 C.2.1 X.1 (fun t ht hW => ⟨none, G, rfl, h, ⟨L, h1, by rw [ht]; exact h2, h3⟩, h4.F ht⟩) h4.2.2 hd X.2.1
theorem V_aret {o : Option Nat} {rt : FieldType} (C : Cx p s m args c meth Y (GA G0 s.heap.size) own cc ini) (X : Rx meth c (some rt) maxL) (hrt : (∃ n, rt = .object n) ∨ ∃ t, rt = .array t) (hd : decode cc pc = .ok (.areturn, 1)) (hn : n ≤ rm.cells) (hk : k ≤ rm.slots) (h : post (some (.inr (.inr o))) G) : V p l e rm s m args below meth c Y (GA G0 s.heap.size) (QM below args s rm Y G0 post) pc G n k lc [.inr (.inr o)] := by
  intro L H locs ls h1 h2 h3 h4 h5
  refine W.widen (k := rm.cells) (n := rm.slots) hn hk ?_
  refine W.aret (v := va_rf o) C.1 C.2.1 X.1 hrt ?_ (fun t ht hW => ⟨some (.inr (.inr o)), G, rfl, h, ⟨L, h1, by rw [ht]; exact h2, h3⟩, h4.F ht⟩) h4.2.2 hd X.2.1
  cases o with
  | none => exact Or.inl rfl
  | some a => exact Or.inr ⟨a, rfl⟩
end VRET
