/-! the law's two helpers, which catch -/
section LWHS
/-- a row of the table takes E, thrown at pc, and leads to hpc -/
def CaT (c : Code) (s : State) (args : Array Value) (own : String) (pc : Nat) (E : String) (hpc : Nat) : Prop := ∃ (pre suf : List ExceptionTableEntry) (x : ExceptionTableEntry) (name : String), c.exceptionTable.toList = pre ++ x :: suf ∧ (∀ z ∈ pre, z.catchType ≠ 0 ∧ ∃ nm : String, (Cond.classLink own z.catchType nm).before args s = true ∧ va_Nc E nm s) ∧ covers x pc = true ∧ x.catchType ≠ 0 ∧ (Cond.classLink own x.catchType name).before args s = true ∧ (Cond.castable E name).before args s = true ∧ x.handlerPc = hpc
section
variable {p : Program} {l : Launch} {e : Env} {R : Room} {s : State} {m : MethodId} {args : Array Value} {below : List Frame} {meth : Method} {c : Code} {Y : YT} {A : Nat → Prop} {Q : State → Prop} {own : String} {cc : ByteArray} {ini : Prop} {pc : Nat}
theorem A_of {G : GH} {L : List Nat} {H : Heap} {locs : List Loc} (C : Cx p s m args c meth Y A own cc ini) (h1 : GL G L) (h3 : va_D A (va_pl L (cf Y G))) (h4 : va_S A s.heap H locs) : ∀ q, GA G H.size q → A q := by
  intro q hq
  rcases hq with hq | hq
  · exact (wd_D.mp h3).2 q ((h1 q).mpr hq)
  · exact C.2.2.2.2.2.1 q (Nat.le_trans h4.1 hq)
theorem V_callX {G : GH} {n k mc ms : Nat} {lc : List (Option AV)} {st rest : List AV} {a : Array Value} {post : Option AV → GH → Prop} {pX : String → GH → Prop} (C : Cx p s m args c meth Y A own cc ini)
    (hr : ∀ (L : List Nat) (H : Heap) (locs : List Loc) (ls : Array Slot), GL G L → va_P Y.1 vwCl (va_pl L (cf Y G)) H → va_D A (va_pl L (cf Y G)) → va_S A s.heap H locs → lcs ls lc → vx_Run p l e R s m args below meth c H locs n k mc ms (F0 m pc ls (st.map cvv)) (rest.map cvv) (QC Y G H.size post a) (XCX Y G H.size pX) (GA G H.size))
    (kk : ∀ r G', post r G' → V p l e R s m args below meth c Y A Q (pc + 3) G' (n + mc) (k + ms) lc (r.toList ++ rest)) (kx : ∀ E G' q, pX E G' → ∃ hpc, CaT c s args own pc E hpc ∧ V p l e R s m args below meth c Y A Q hpc G' (n + mc) (k + ms) lc [.inr (.inr (some q))]) : V p l e R s m args below meth c Y A Q pc G n k lc st := by
  intro L H locs ls h1 h2 h3 h4 h5 T hT X
  have hA := A_of C h1 h3 h4
  have key : ∀ (t T' st₀ : State) (L' : List Loc), st₀.heap = H → T'.heap = t.heap → va_F (GA G H.size) st₀ t → (∀ q ∈ L', GA G H.size q.base) → va_S A s.heap T'.heap (locs ++ L') := by
    intro t T' st₀ L' e0 e1 hF hL'
    obtain ⟨hz, hkk⟩ := hF
    rw [e0] at hz hkk
    refine ⟨Nat.le_trans h4.1 (by rw [e1]; exact hz), fun q q1 q2 => by rw [e1, hkk q (Nat.lt_of_lt_of_le q1 h4.1) (fun z => q2 (hA q z))]; exact h4.2.1 q q1 q2, fun q hq => ?_⟩
    rcases List.mem_append.mp hq with h | h
    · exact h4.2.2 q h
    · exact hA _ (hL' q h)
  rcases hr L H locs ls h1 h2 h3 h4 h5 T hT X with ⟨v, st₀, t, T', L', e0, X', hL', e1, e2, ⟨r, G', hv, hp, ⟨L2, g1, g2, g3⟩, hF⟩, go⟩ | ⟨q, st₀, t, T', L', E, ce, e0, X', hL', e1, e2, ⟨G', hp, ⟨L2, g1, g2, g3⟩, hF⟩, hce, hcv, hcl, go⟩
  · have hvr : v = r.map cvv := Outcome.returned.inj hv
    subst hvr
    rw [← e1] at g2
    obtain ⟨t2, a1, b1⟩ := kk r G' hp L2 T'.heap (locs ++ L') ls g1 g2 (g3.weaken (fun _ q _ hq => hA q.1 hq)) (key t T' st₀ L' e0 e1 hF hL') h5 T' rfl X'
    refine ⟨t2, go t2 ?_, b1⟩
    have e9 : (r.toList ++ rest).map cvv = (r.map cvv).toList ++ rest.map cvv := by cases r <;> rfl
    rw [e9] at a1
    exact a1
  · rw [← e1] at g2
    obtain ⟨hpc, ⟨pre, suf, x, name, c1, c2, c3, c4, c5, c6, rfl⟩, kV⟩ := kx E G' q hp
    have kW := kV L2 T'.heap (locs ++ L') ls g1 g2 (g3.weaken (fun _ q _ hq => hA q.1 hq)) (key t T' st₀ L' e0 e1 hF hL') h5
    obtain ⟨t2, a1, b1⟩ := ca_catch (own := own) (rest := rest.map cvv) C.2.2.1 c1 c2 c3 c4 c5 c6 (by rw [e1]; exact hce) hcv hcl kW T' rfl X'
    exact ⟨t2, go.trans a1, b1⟩
theorem PCX_at {G : GH} {L : List Nat} {H : Heap} {locs : List Loc} {av : List AV} (C : Cx p s m args c meth Y A own cc ini) (hE : EW A s s.heap) (h1 : GL G L) (h2 : va_P Y.1 vwCl (va_pl L (cf Y G)) H) (h3 : va_D A (va_pl L (cf Y G))) (h4 : va_S A s.heap H locs) : ∀ U : State, U.heap = H → s.WarmedH U.vm → PCX Y G H.size av (av.map cvv).toArray U := by
  intro U hU hW
  refine ⟨PC_at C h1 h2 h3 h4 U hU hW, ?_⟩
  rw [hU]
  exact ((EW.warm hW hE).kept (H1 := H) (fun a q1 q2 => h4.2.1 a q1 q2)).narrow (A_of C h1 h3 h4)
/-- a virtual call of a method that may throw -/
theorem V_virtX {y : MethodName} {cc' : ByteArray} {maxL' nL i ci0 N : Nat} {ret' : Option FieldType} {T : u_T} {G : GH} {n k d' mc' ms' b : Nat} {fs : List AV} {lc : List (Option AV)} {As rest : List AV} {post : Option AV → GH → Prop} {pX : String → GH → Prop} (np : Nat) (C : Cx p s m args c meth Y A own cc ini) (hE : EW A s s.heap) (hml : c.maxLocals = nL) (hlc : lc.length = nL) (hd : decode cc pc = .ok (.invokevirtual i, 3)) (hc : Jvm.Cond.code y cc' maxL' ret' ∈ tg) (h1 : Jvm.Cond.methodLink own i y ∈ tg) (h2 : Jvm.Cond.instanceMethod y ∈ tg) (h3 : Jvm.Cond.initialized y.cls ∈ tg) (h4 : Jvm.Cond.selects y.cls y y ∈ tg) (hy : yOk y np) (hcl : vwCl[ci0]? = some (y.cls, T, N)) (hG : G b = some (.inr (ci0, fs))) (hna : As.length = np) (hrl : rest.length ≤ 4) (hR : Rq R n k d' mc' ms' maxL')
    (ct : CtX l y cc' maxL' ret' (RM d' mc' ms') Y (.inr (.inr (some b)) :: As) G post pX) (kk : ∀ r G', post r G' → V p l e R s m args below meth c Y A Q (pc + 3) G' (n + mc') (k + ms') lc (r.toList ++ rest)) (kx : ∀ E G' q, pX E G' → ∃ hpc, CaT c s args own pc E hpc ∧ V p l e R s m args below meth c Y A Q hpc G' (n + mc') (k + ms') lc [.inr (.inr (some q))]) : V p l e R s m args below meth c Y A Q pc G n k lc ((.inr (.inr (some b)) :: As : List AV).reverse ++ rest) := by
  refine V_callX (rest := rest) (a := (Value.ref b :: As.map cvv).toArray) C (fun L H locs ls g1 g2 g3 g4 g5 => ?_) kk kx
  exact vx_runV (C := y.cls) (b := b) (As := As.map cvv) (rest := rest.map cvv) (g := F0 m pc ls (((.inr (.inr (some b)) :: As : List AV).reverse ++ rest).map cvv)) ⟨C.1, C.2.1, hml, C.2.2.1, C.2.2.2.1⟩ (ct H.size) (cwV np C.2.2.2.1 (tg_app (fun w hw => by rcases List.mem_cons.mp hw with rfl | hw; exact h1; rcases List.mem_cons.mp hw with rfl | hw; exact h2; rcases List.mem_cons.mp hw with rfl | hw; exact h4; rw [List.mem_singleton.mp hw]; exact h3) (good_cons hc)) rfl rfl rfl ⟨rfl, hy⟩ ⟨hR.1, hR.2.1⟩) ⟨PCX_blind, G_recv C g1 g2 hG hcl, PCX_at C hE g1 g2 g3 g4⟩ rfl (by rw [List.length_map]; exact hna) (g5.1.trans hlc) (map_rev1 b As rest) (lv_room (room_cat hrl)) hd ⟨hR.2.2.1, hR.2.2.2⟩
end
/-- the contract of a method with a table, which returns; it asks the world of throws -/
def CtW (l : Launch) (y : MethodName) (cc : ByteArray) (maxL : Nat) (ret : Option FieldType) (hh : List (Nat × Nat × Nat × Nat)) (rm : Room) (Y : YT) (av : List AV) (G : GH) (post : Option AV → GH → Prop) : Prop :=
  ∀ sz : Nat, Met l y (.codeWith y cc maxL ret hh :: tg) rm (PCX Y G sz av) (QC Y G sz post) rm.cells rm.slots (GA G sz)
theorem CtW.of {l : Launch} {y : MethodName} {cc : ByteArray} {maxL : Nat} {ret : Option FieldType} {hh : List (Nat × Nat × Nat × Nat)} {rm : Room} {Y : YT} {av : List AV} {G : GH} {post : Option AV → GH → Prop} (hy : plainName y.cls = true) (hs : av.all sm = true) (hl : av.length ≤ maxL)
    (body : ∀ (p : Program) (e : Env) (s : State) (m : MethodId) (args : Array Value) (below : List Frame) (meth : Method) (c : Code), Cx p s m args c meth Y (GA G s.heap.size) y.cls cc False → Rx meth c ret maxL → c.exceptionTable.toList = tableOf hh → EW (GA G s.heap.size) s s.heap → V p l e rm s m args below meth c Y (GA G s.heap.size) (QM below args s rm Y G post) 0 G 0 0 (lc0 av maxL) []) : CtW l y cc maxL ret hh rm Y av G post := by
  intro sz
  refine va_MetW (hh := hh) (cc := cc) (maxL := maxL) (ret := ret) hy rfl ?_
  intro p e s m args below meth c s₁ B hml hv
  obtain ⟨⟨rfl, hsz, ⟨L, hL, hP, hD⟩, hK⟩, hE⟩ := hv
  subst hsz
  have hts := atoms_spec (ws := .codeWith y cc maxL ret hh :: tg) B.pre
  have hown : s.vm.findClass y.cls = some m.cls := findClass_of_methodNamed B.named
  have C : Cx p s m (av.map cvv).toArray c meth Y (GA G s.heap.size) y.cls cc False := ⟨B.exec, B.bytes, hown, fun w hw => hts w (List.mem_cons_of_mem _ hw), hK, fun q h => Or.inr h, False.elim⟩
  have h0 := body p e s m (av.map cvv).toArray below meth c C ⟨B.returns, B.notSynchronized, hml⟩ (vx_table (x := y) B (hts _ List.mem_cons_self)) hE L s.heap []
    ((lg_sl (av.map cvv) ++ List.replicate (maxL - (lg_sl (av.map cvv)).length) Slot.unset).toArray) hL hP ⟨hD.1, fun k q hk => ?_⟩ va_S.rf (lcs_entry hs hl)
  · rw [lg_entry_eq]
    exact h0
  · refine Or.inl ?_
    obtain ⟨a, ha, rfl⟩ := List.mem_map.mp (List.mem_of_getElem? hk)
    exact (hL a).mp ha
/-- a static call of such a method -/
theorem V_statW {p : Program} {l : Launch} {e : Env} {R : Room} {s : State} {m : MethodId} {args : Array Value} {below : List Frame} {meth : Method} {c : Code} {Y : YT} {A : Nat → Prop} {Q : State → Prop} {own : String} {cc : ByteArray} {ini : Prop} {pc : Nat} {y : MethodName} {cc' : ByteArray} {maxL' nL i : Nat} {ret' : Option FieldType} {hh : List (Nat × Nat × Nat × Nat)} {G : GH} {n k d' mc' ms' : Nat} {lc : List (Option AV)} {av rest : List AV} {post : Option AV → GH → Prop} (np : Nat) (C : Cx p s m args c meth Y A own cc ini) (hE : EW A s s.heap) (hml : c.maxLocals = nL) (hlc : lc.length = nL) (hd : decode cc pc = .ok (.invokestatic i, 3)) (hc : Jvm.Cond.codeWith y cc' maxL' ret' hh ∈ tg) (h1 : Jvm.Cond.methodLink own i y ∈ tg) (h2 : Jvm.Cond.static y ∈ tg) (h3 : Jvm.Cond.initialized y.cls ∈ tg) (hy : yOk y np) (hna : av.length = np) (hrl : rest.length ≤ 4) (hR : Rq R n k d' mc' ms' maxL')
    (ct : CtW l y cc' maxL' ret' hh (RM d' mc' ms') Y av G post) (kk : ∀ r G', post r G' → V p l e R s m args below meth c Y A Q (pc + 3) G' (n + mc') (k + ms') lc (r.toList ++ rest)) : V p l e R s m args below meth c Y A Q pc G n k lc (av.reverse ++ rest) := by
  refine V_call (rest := rest) (a := (av.map cvv).toArray) C (fun L H locs ls g1 g2 g3 g4 g5 => ?_) kk
  exact vx_runSW (hh := hh) (As := av.map cvv) (rest := rest.map cvv) (g := F0 m pc ls ((av.reverse ++ rest).map cvv)) ⟨C.1, C.2.1, hml, C.2.2.1, C.2.2.2.1⟩ (ct H.size) (vx_cwSW np C.2.2.2.1 (tg_app (fun w hw => by rcases List.mem_cons.mp hw with rfl | hw; exact h1; rcases List.mem_cons.mp hw with rfl | hw; exact h2; rw [List.mem_singleton.mp hw]; exact h3) (tg_good (fun w hw => (List.mem_cons.mp hw).elim (fun e => e ▸ hc) id))) rfl rfl rfl hy ⟨hR.1, hR.2.1⟩) ⟨PCX_blind, PCX_at C hE g1 g2 g3 g4⟩ rfl (by rw [List.length_map]; exact hna) (g5.1.trans hlc) (map_rev av rest) (lv_room (room_cat hrl)) hd ⟨hR.2.2.1, hR.2.2.2⟩
abbrev hhA : List (Nat × Nat × Nat × Nat) := [(0, 9, 12, 13), (0, 9, 15, 15)]
abbrev hhF : List (Nat × Nat × Nat × Nat) := [(0, 12, 15, 13), (0, 12, 19, 15), (0, 12, 23, 21)]
set_option maxRecDepth 100000 in
theorem hw_in : ∀ w ∈ [Cond.methodLink RL 7 yX8_answer, Cond.code yX8_answer cX8_answer 3 (some .int), Cond.instanceMethod yX8_answer, Cond.selects RX8 yX8_answer yX8_answer, Cond.initialized RX8, Cond.methodLink RL 17 yX8_failure, Cond.code yX8_failure cX8_failure 6 (some .int), Cond.instanceMethod yX8_failure, Cond.selects RX8 yX8_failure yX8_failure, Cond.classLink RL 13 sIA, Cond.classLink RL 15 sIS, Cond.classLink RL 21 sIB], w ∈ tg := by decide +kernel
set_option maxRecDepth 100000 in
theorem hc_in : ∀ w ∈ [Cond.codeWith yL_answer cL_answer 4 (some .int) hhA, Cond.codeWith yL_failure cL_failure 6 (some .int) hhF, Cond.static yL_answer, Cond.static yL_failure, Cond.initialized RL, Cond.methodLink RL 111 yL_answer, Cond.methodLink RL 124 yL_failure], w ∈ tg := by decide +kernel
theorem hA_0 : SJ RL cL_answer False 0 (fun R Y K => w_aload 2 R Y (w_int (nI 0) R Y (w_aload 0 R Y (w_iload 1 R Y (t_at 4 R Y K))))) := (SS_aload_n 2 (show decode cL_answer 0 = .ok (.aload_n 2, 1) by decide +kernel) rfl).to ((SS_iconst (show decode cL_answer 1 = .ok (.iconst 0, 1) by decide +kernel) (by decide +kernel)).to ((SS_aload_n 0 (show decode cL_answer 2 = .ok (.aload_n 0, 1) by decide +kernel) rfl).to ((SS_iload_n 1 (show decode cL_answer 3 = .ok (.iload_n 1, 1) by decide +kernel) rfl).to (SJ_at 4))))
theorem hA_7 : SJ RL cL_answer False 7 (fun R Y K => w_i2l R Y (w_last R Y (t_goto 18 R Y K))) := (SS_i2l (show decode cL_answer 7 = .ok (.i2l, 1) by decide +kernel)).to ((SS_last (show decode cL_answer 8 = .ok (.lastore, 1) by decide +kernel)).to (SJ_goto 18 (show decode cL_answer 9 = .ok (.goto 9, 3) by decide +kernel) (by decide +kernel)))
theorem hA_12 : SJ RL cL_answer False 12 (fun R Y K => w_astore 3 R Y (w_int (nI 1) R Y (t_at 14 R Y K))) := (SS_astore_n 3 (show decode cL_answer 12 = .ok (.astore_n 3, 1) by decide +kernel) rfl).to ((SS_iconst (show decode cL_answer 13 = .ok (.iconst 1, 1) by decide +kernel) (by decide +kernel)).to (SJ_at 14))
theorem hA_15 : SJ RL cL_answer False 15 (fun R Y K => w_astore 3 R Y (w_int (nI 2) R Y (t_at 17 R Y K))) := (SS_astore_n 3 (show decode cL_answer 15 = .ok (.astore_n 3, 1) by decide +kernel) rfl).to ((SS_iconst (show decode cL_answer 16 = .ok (.iconst 2, 1) by decide +kernel) (by decide +kernel)).to (SJ_at 17))
theorem hA_18 : SJ RL cL_answer False 18 (fun R Y K => w_int (nI 0) R Y (t_at 19 R Y K)) := (SS_iconst (show decode cL_answer 18 = .ok (.iconst 0, 1) by decide +kernel) (by decide +kernel)).to (SJ_at 19)
theorem hF_0 : SJ RL cL_failure False 0 (fun R Y K => w_aload 4 R Y (w_int (nI 0) R Y (w_aload 0 R Y (w_iload 1 R Y (w_iload 2 R Y (w_iload 3 R Y (t_at 7 R Y K))))))) := (SS_aload 4 (show decode cL_failure 0 = .ok (.aload 4, 2) by decide +kernel)).to ((SS_iconst (show decode cL_failure 2 = .ok (.iconst 0, 1) by decide +kernel) (by decide +kernel)).to ((SS_aload_n 0 (show decode cL_failure 3 = .ok (.aload_n 0, 1) by decide +kernel) rfl).to ((SS_iload_n 1 (show decode cL_failure 4 = .ok (.iload_n 1, 1) by decide +kernel) rfl).to ((SS_iload_n 2 (show decode cL_failure 5 = .ok (.iload_n 2, 1) by decide +kernel) rfl).to ((SS_iload_n 3 (show decode cL_failure 6 = .ok (.iload_n 3, 1) by decide +kernel) rfl).to (SJ_at 7))))))
theorem hF_10 : SJ RL cL_failure False 10 (fun R Y K => w_i2l R Y (w_last R Y (t_goto 27 R Y K))) := (SS_i2l (show decode cL_failure 10 = .ok (.i2l, 1) by decide +kernel)).to ((SS_last (show decode cL_failure 11 = .ok (.lastore, 1) by decide +kernel)).to (SJ_goto 27 (show decode cL_failure 12 = .ok (.goto 15, 3) by decide +kernel) (by decide +kernel)))
theorem hF_15 : SJ RL cL_failure False 15 (fun R Y K => w_astore 5 R Y (w_int (nI 1) R Y (t_at 18 R Y K))) := (SS_astore 5 (show decode cL_failure 15 = .ok (.astore 5, 2) by decide +kernel)).to ((SS_iconst (show decode cL_failure 17 = .ok (.iconst 1, 1) by decide +kernel) (by decide +kernel)).to (SJ_at 18))
theorem hF_19 : SJ RL cL_failure False 19 (fun R Y K => w_astore 5 R Y (w_int (nI 2) R Y (t_at 22 R Y K))) := (SS_astore 5 (show decode cL_failure 19 = .ok (.astore 5, 2) by decide +kernel)).to ((SS_iconst (show decode cL_failure 21 = .ok (.iconst 2, 1) by decide +kernel) (by decide +kernel)).to (SJ_at 22))
theorem hF_23 : SJ RL cL_failure False 23 (fun R Y K => w_astore 5 R Y (w_int (nI 3) R Y (t_at 26 R Y K))) := (SS_astore 5 (show decode cL_failure 23 = .ok (.astore 5, 2) by decide +kernel)).to ((SS_iconst (show decode cL_failure 25 = .ok (.iconst 3, 1) by decide +kernel) (by decide +kernel)).to (SJ_at 26))
theorem hF_27 : SJ RL cL_failure False 27 (fun R Y K => w_int (nI 0) R Y (t_at 28 R Y K)) := (SS_iconst (show decode cL_failure 27 = .ok (.iconst 0, 1) by decide +kernel) (by decide +kernel)).to (SJ_at 28)
variable {l : Launch} {Y : YT}
theorem y_answer (d mc ms : Nat) (G : GH) (x u : Nat) (v : Int32) {fs : List AV} {post : Option AV → GH → Prop} {pX : String → GH → Prop} {P0 P1 P2 : GH → Prop} (hx : G x = some (.inr (8, fs))) (ct : CtX l yX8_answer cX8_answer 3 (some .int) (RM d mc ms) Y [.inr (.inr (some x)), .inl v] G post pX)
    (h0 : ∀ r G', post r G' → ∃ z f, r = some (.inl z) ∧ G' u = some (.inl (1, 1, .inr (.inl f))) ∧ P0 (va_up G' u (some (.inl (1, 1, .inr (.inl (vp_updL f 0 z.toInt64))))))) (hX : ∀ E G', pX E G' → (E = sIA ∧ P1 G') ∨ (E = sIS ∧ P2 G')) :
    CtW l yL_answer cL_answer 4 (some .int) hhA (RM (d + 1) mc ms) Y [.inr (.inr (some x)), .inl v, .inr (.inr (some u))] G (fun r G' => (r = some (.inl (nI 0)) ∧ P0 G') ∨ (r = some (.inl (nI 1)) ∧ P1 G') ∨ (r = some (.inl (nI 2)) ∧ P2 G')) := by
  refine CtW.of (by decide +kernel) rfl (Nat.le_of_ble_eq_true rfl) ?_
  intro p e s m args below meth c C X ht hE
  replace C : Cx p s m args c meth Y (GA G s.heap.size) RL cL_answer False := C
  refine hA_0.go C ⟨trivial, ?_⟩
  refine V_virtX (nL := 4) (i := 7) (ci0 := 8) (T := TX8) (N := 12) (As := [.inl v]) (rest := [.inl (nI 0), .inr (.inr (some u))]) 1 C hE X.2.2 rfl (show decode cL_answer 4 = .ok (.invokevirtual 7, 3) by decide +kernel) (hw_in _ (by simp)) (hw_in _ (by simp)) (hw_in _ (by simp)) (hw_in (Cond.initialized RX8) (by simp)) (hw_in (Cond.selects RX8 yX8_answer yX8_answer) (by simp)) (show yOk yX8_answer 1 from ⟨by decide +kernel, by decide +kernel, by decide +kernel⟩) rfl hx rfl (lb rfl) (Rq.of (Nat.le_refl _) (by decide) (by omega) (by omega)) ct ?_ ?_
  · intro r G' hp
    obtain ⟨z, f, rfl, hu, hP⟩ := h0 r G' hp
    refine hA_7.go C ⟨_, rfl, _, _, hu, 0, rfl, by decide, by decide, trivial, ?_⟩
    refine hA_18.go C ⟨trivial, ?_⟩
    exact V_iret C X (show decode cL_answer 19 = .ok (.ireturn, 1) by decide +kernel) (by show 0 + mc ≤ mc; omega) (by show 0 + ms ≤ ms; omega) (Or.inl ⟨rfl, hP⟩)
  · intro E G' q hp
    rcases hX E G' hp with ⟨rfl, hP⟩ | ⟨rfl, hP⟩
    · refine ⟨12, ⟨[], [⟨0, 9, 15, 15⟩], ⟨0, 9, 12, 13⟩, sIA, ht, (by intro z hz; cases hz), rfl, by decide, C.2.2.2.1 _ (hw_in (Cond.classLink RL 13 sIA) (by simp)), va_Nw.use rfl (C.2.2.2.2.1.2.2.2.2.2.1 _ xc_A), rfl⟩, ?_⟩
      refine hA_12.go C ⟨trivial, ?_⟩
      exact V_iret C X (show decode cL_answer 14 = .ok (.ireturn, 1) by decide +kernel) (by show 0 + mc ≤ mc; omega) (by show 0 + ms ≤ ms; omega) (Or.inr (Or.inl ⟨rfl, hP⟩))
    · refine ⟨15, ⟨[⟨0, 9, 12, 13⟩], [], ⟨0, 9, 15, 15⟩, sIS, ht, fun z hz => ?_, rfl, by decide, C.2.2.2.1 _ (hw_in (Cond.classLink RL 15 sIS) (by simp)), va_Nw.use rfl (C.2.2.2.2.1.2.2.2.2.2.1 _ xc_S), rfl⟩, ?_⟩
      · rw [List.mem_singleton.mp hz]
        exact ⟨by decide, sIA, C.2.2.2.1 _ (hw_in (Cond.classLink RL 13 sIA) (by simp)), hE.2.2.1⟩
      refine hA_15.go C ⟨trivial, ?_⟩
      exact V_iret C X (show decode cL_answer 17 = .ok (.ireturn, 1) by decide +kernel) (by show 0 + mc ≤ mc; omega) (by show 0 + ms ≤ ms; omega) (Or.inr (Or.inr ⟨rfl, hP⟩))
theorem y_failure (d mc ms : Nat) (G : GH) (x u : Nat) (v w z : Int32) {fs : List AV} {post : Option AV → GH → Prop} {pX : String → GH → Prop} {P0 P1 P2 P3 : GH → Prop} (hx : G x = some (.inr (8, fs))) (ct : CtX l yX8_failure cX8_failure 6 (some .int) (RM d mc ms) Y [.inr (.inr (some x)), .inl v, .inl w, .inl z] G post pX)
    (h0 : ∀ r G', post r G' → ∃ z f, r = some (.inl z) ∧ G' u = some (.inl (1, 1, .inr (.inl f))) ∧ P0 (va_up G' u (some (.inl (1, 1, .inr (.inl (vp_updL f 0 z.toInt64))))))) (hX : ∀ E G', pX E G' → (E = sIA ∧ P1 G') ∨ (E = sIS ∧ P2 G') ∨ (E = sIB ∧ P3 G')) :
    CtW l yL_failure cL_failure 6 (some .int) hhF (RM (d + 1) mc ms) Y [.inr (.inr (some x)), .inl v, .inl w, .inl z, .inr (.inr (some u))] G (fun r G' => (r = some (.inl (nI 0)) ∧ P0 G') ∨ (r = some (.inl (nI 1)) ∧ P1 G') ∨ (r = some (.inl (nI 2)) ∧ P2 G') ∨ (r = some (.inl (nI 3)) ∧ P3 G')) := by
  refine CtW.of (by decide +kernel) rfl (Nat.le_of_ble_eq_true rfl) ?_
  intro p e s m args below meth c C X ht hE
  replace C : Cx p s m args c meth Y (GA G s.heap.size) RL cL_failure False := C
  refine hF_0.go C ⟨trivial, ?_⟩
  refine V_virtX (nL := 6) (i := 17) (ci0 := 8) (T := TX8) (N := 12) (As := [.inl v, .inl w, .inl z]) (rest := [.inl (nI 0), .inr (.inr (some u))]) 3 C hE X.2.2 rfl (show decode cL_failure 7 = .ok (.invokevirtual 17, 3) by decide +kernel) (hw_in _ (by simp)) (hw_in _ (by simp)) (hw_in _ (by simp)) (hw_in (Cond.initialized RX8) (by simp)) (hw_in (Cond.selects RX8 yX8_failure yX8_failure) (by simp)) (show yOk yX8_failure 3 from ⟨by decide +kernel, by decide +kernel, by decide +kernel⟩) rfl hx rfl (lb rfl) (Rq.of (Nat.le_refl _) (by decide) (by omega) (by omega)) ct ?_ ?_
  · intro r G' hp
    obtain ⟨z, f, rfl, hu, hP⟩ := h0 r G' hp
    refine hF_10.go C ⟨_, rfl, _, _, hu, 0, rfl, by decide, by decide, trivial, ?_⟩
    refine hF_27.go C ⟨trivial, ?_⟩
    exact V_iret C X (show decode cL_failure 28 = .ok (.ireturn, 1) by decide +kernel) (by show 0 + mc ≤ mc; omega) (by show 0 + ms ≤ ms; omega) (Or.inl ⟨rfl, hP⟩)
  · intro E G' q hp
    rcases hX E G' hp with ⟨rfl, hP⟩ | ⟨rfl, hP⟩ | ⟨rfl, hP⟩
    · refine ⟨15, ⟨[], [⟨0, 12, 19, 15⟩, ⟨0, 12, 23, 21⟩], ⟨0, 12, 15, 13⟩, sIA, ht, (by intro z hz; cases hz), rfl, by decide, C.2.2.2.1 _ (hw_in (Cond.classLink RL 13 sIA) (by simp)), va_Nw.use rfl (C.2.2.2.2.1.2.2.2.2.2.1 _ xc_A), rfl⟩, ?_⟩
      refine hF_15.go C ⟨trivial, ?_⟩
      exact V_iret C X (show decode cL_failure 18 = .ok (.ireturn, 1) by decide +kernel) (by show 0 + mc ≤ mc; omega) (by show 0 + ms ≤ ms; omega) (Or.inr (Or.inl ⟨rfl, hP⟩))
    · refine ⟨19, ⟨[⟨0, 12, 15, 13⟩], [⟨0, 12, 23, 21⟩], ⟨0, 12, 19, 15⟩, sIS, ht, fun z hz => ?_, rfl, by decide, C.2.2.2.1 _ (hw_in (Cond.classLink RL 15 sIS) (by simp)), va_Nw.use rfl (C.2.2.2.2.1.2.2.2.2.2.1 _ xc_S), rfl⟩, ?_⟩
      · rw [List.mem_singleton.mp hz]
        exact ⟨by decide, sIA, C.2.2.2.1 _ (hw_in (Cond.classLink RL 13 sIA) (by simp)), hE.2.2.1⟩
      refine hF_19.go C ⟨trivial, ?_⟩
      exact V_iret C X (show decode cL_failure 22 = .ok (.ireturn, 1) by decide +kernel) (by show 0 + mc ≤ mc; omega) (by show 0 + ms ≤ ms; omega) (Or.inr (Or.inr (Or.inl ⟨rfl, hP⟩)))
    · refine ⟨23, ⟨[⟨0, 12, 15, 13⟩, ⟨0, 12, 19, 15⟩], [], ⟨0, 12, 23, 21⟩, sIB, ht, fun z hz => ?_, rfl, by decide, C.2.2.2.1 _ (hw_in (Cond.classLink RL 21 sIB) (by simp)), va_Nw.use rfl (C.2.2.2.2.1.2.2.2.2.2.1 _ xc_B), rfl⟩, ?_⟩
      · rcases List.mem_cons.mp hz with rfl | hz
        · exact ⟨by decide, sIA, C.2.2.2.1 _ (hw_in (Cond.classLink RL 13 sIA) (by simp)), hE.2.2.2.1⟩
        · rw [List.mem_singleton.mp hz]
          exact ⟨by decide, sIS, C.2.2.2.1 _ (hw_in (Cond.classLink RL 15 sIS) (by simp)), hE.2.2.2.2.1⟩
      refine hF_23.go C ⟨trivial, ?_⟩
      exact V_iret C X (show decode cL_failure 26 = .ok (.ireturn, 1) by decide +kernel) (by show 0 + mc ≤ mc; omega) (by show 0 + ms ≤ ms; omega) (Or.inr (Or.inr (Or.inr ⟨rfl, hP⟩)))
end LWHS
