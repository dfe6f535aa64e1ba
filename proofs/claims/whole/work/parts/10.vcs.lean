/-! CALL SITES: a contract of the callee, and V behind it, give V at the call -/
def RM (d mc ms : Nat) : Room := { frames := d, cells := mc, slots := ms, locals := 40 * d }
/-- the contract, with its room by the depth d of its calls -/
abbrev Cd (l : Launch) (y : MethodName) (cc : ByteArray) (maxL : Nat) (ret : Option FieldType) (d mc ms : Nat) (Y : YT) (av : List AV) (G : GH) (post : Option AV → GH → Prop) : Prop := Ct l y cc maxL ret (RM d mc ms) Y av G post
section VCS
variable {p : Program} {l : Launch} {e : Env} {R : Room} {s : State} {m : MethodId} {args : Array Value} {below : List Frame} {meth : Method} {c : Code} {Y : YT} {A : Nat → Prop} {Q : State → Prop} {own : String} {cc : ByteArray} {ini : Prop} {pc : Nat}
theorem V_call {G : GH} {n k mc ms : Nat} {lc : List (Option AV)} {st rest : List AV} {a : Array Value} {post : Option AV → GH → Prop} (C : Cx p s m args c meth Y A own cc ini)
    (hr : ∀ (L : List Nat) (H : Heap) (locs : List Loc) (ls : Array Slot), GL G L → va_P Y.1 vwCl (va_pl L (cf Y G)) H → va_D A (va_pl L (cf Y G)) → va_S A s.heap H locs → lcs ls lc → va_Run p l e R s m args below meth c H locs n k mc ms (F0 m pc ls (st.map cvv)) (rest.map cvv) (QC Y G H.size post a) (GA G H.size))
    (kk : ∀ r G', post r G' → V p l e R s m args below meth c Y A Q (pc + 3) G' (n + mc) (k + ms) lc (r.toList ++ rest)) : V p l e R s m args below meth c Y A Q pc G n k lc st := by
  intro L H locs ls h1 h2 h3 h4 h5 T hT X
  obtain ⟨v, st₀, t, T', L', e0, X', hL', e1, e2, ⟨r, G', hv, hp, ⟨L2, g1, g2, g3⟩, hF⟩, go⟩ := hr L H locs ls h1 h2 h3 h4 h5 T hT X
  have hvr : v = r.map cvv := Outcome.returned.inj hv
  subst hvr
  have hA : ∀ q, GA G H.size q → A q := by
    intro q hq
    rcases hq with hq | hq
    · obtain ⟨k9, hk9⟩ := List.getElem?_of_mem (List.mem_map.mpr ⟨q, (h1 q).mpr hq, rfl⟩ : (q, cf Y G q) ∈ va_pl L (cf Y G))
      exact h3.2 k9 _ hk9
    · exact C.2.2.2.2.2.1 q (Nat.le_trans h4.1 hq)
  rw [← e1] at g2
  obtain ⟨hz, hkk⟩ := hF
  rw [e0] at hz hkk
  obtain ⟨t2, a1, b1⟩ := kk r G' hp L2 T'.heap (locs ++ L') ls g1 g2 (g3.weaken (fun _ q _ hq => hA q.1 hq))
    ⟨Nat.le_trans h4.1 (by rw [e1]; exact hz), fun q q1 q2 => by rw [e1, hkk q (Nat.lt_of_lt_of_le q1 h4.1) (fun z => q2 (hA q z))]; exact h4.2.1 q q1 q2, fun q hq => by
      rcases List.mem_append.mp hq with h | h
      · exact h4.2.2 q h
      · exact hA _ (hL' q h)⟩ h5 T' rfl X'
  refine ⟨t2, go t2 ?_, b1⟩
  have e9 : (r.toList ++ rest).map cvv = (r.map cvv).toList ++ rest.map cvv := by cases r <;> rfl
  rw [e9] at a1
  exact a1
theorem PC_at {G : GH} {L : List Nat} {H : Heap} {locs : List Loc} {av : List AV} (C : Cx p s m args c meth Y A own cc ini) (h1 : GL G L) (h2 : va_P Y.1 vwCl (va_pl L (cf Y G)) H) (h3 : va_D A (va_pl L (cf Y G))) (h4 : va_S A s.heap H locs) : ∀ U : State, U.heap = H → s.WarmedH U.vm → PC Y G H.size av (av.map cvv).toArray U := by
  intro U hU hW
  refine ⟨rfl, by rw [hU], ⟨L, h1, by rw [hU]; exact h2, h3.weaken (fun _ _ _ _ => trivial)⟩, ?_⟩
  have hK := C.2.2.2.2.1
  have hK2 := KE.warm hW (hK.kept (H1 := H) (fun a q1 q2 => h4.2.1 a q1 q2))
  rw [hU]
  refine hK2.narrow (fun q hq => ?_)
  rcases hq with hq | hq
  · obtain ⟨k9, hk9⟩ := List.getElem?_of_mem (List.mem_map.mpr ⟨q, (h1 q).mpr hq, rfl⟩ : (q, cf Y G q) ∈ va_pl L (cf Y G))
    exact h3.2 k9 _ hk9
  · exact C.2.2.2.2.2.1 q (Nat.le_trans h4.1 hq)
theorem good_cons {y : MethodName} {b : ByteArray} {n : Nat} {r : Option FieldType} (h : Jvm.Cond.code y b n r ∈ tg) : GoodIn tg (.code y b n r :: tg) := tg_good (fun w hw => (List.mem_cons.mp hw).elim (fun e => e ▸ h) id)
theorem tg_app {a b : List Cond} (ha : ∀ w ∈ a, w ∈ tg) (hb : GoodIn tg b) : GoodIn tg (a ++ b) := fun w hw => (List.mem_append.mp hw).elim (fun h => tg_good ha w h) (hb w)
theorem RM_room {d d' mc ms mc' ms' maxL' : Nat} (hd : d' + 1 ≤ d) (hm : maxL' ≤ 21) : (RM d' mc' ms').frames + 1 ≤ (RM d mc ms).frames ∧ 8 + (maxL' + 11) + (RM d' mc' ms').locals ≤ (RM d mc ms).locals := by
  simp only [RM]; omega
theorem room_cat {rest : List AV} (h : rest.length ≤ 4) : ((rest.map cvv).map fun v => v.category).sum ≤ 8 := by
  match rest, h with
  | [], _ => decide
  | [a], _ => rcases lv_cat (cvv a) with h | h <;> simp [h]
  | [a, b], _ => rcases lv_cat (cvv a) with h | h <;> rcases lv_cat (cvv b) with h' | h' <;> simp [h, h']
  | [a, b, c9], _ => rcases lv_cat (cvv a) with h | h <;> rcases lv_cat (cvv b) with h' | h' <;> rcases lv_cat (cvv c9) with h'' | h'' <;> simp [h, h', h'']
  | [a, b, c9, d9], _ => rcases lv_cat (cvv a) with h | h <;> rcases lv_cat (cvv b) with h' | h' <;> rcases lv_cat (cvv c9) with h'' | h'' <;> rcases lv_cat (cvv d9) with h3 | h3 <;> simp [h, h', h'', h3]
/-- what a call asks of its frame and of its room -/
def Rq (R : Room) (n k d' mc' ms' maxL' : Nat) : Prop := d' + 1 ≤ R.frames ∧ 8 + (maxL' + 11) + 40 * d' ≤ R.locals ∧ n + mc' ≤ R.cells ∧ k + ms' ≤ R.slots
theorem Rq.of {d mc ms n k d' mc' ms' maxL' : Nat} (hd : d' + 1 ≤ d) (hm : maxL' ≤ 21) (h1 : n + mc' ≤ mc) (h2 : k + ms' ≤ ms) : Rq (RM d mc ms) n k d' mc' ms' maxL' := ⟨hd, by show 8 + (maxL' + 11) + 40 * d' ≤ 40 * d; omega, h1, h2⟩
end VCS
/-- a call site: the callee y of na values (the receiver counted), whose receiver's class (of those in cis) is looked at where it is a virtual one -/
def CS (own : String) (cc : ByteArray) (ini : Prop) (pc nL : Nat) (y : MethodName) (cc' : ByteArray) (maxL' : Nat) (ret' : Option FieldType) (na : Nat) (cis : List Nat) : Prop :=
  ∀ (p : Program) (l : Launch) (e : Env) (R : Room) (s : State) (m : MethodId) (args : Array Value) (below : List Frame) (meth : Method) (c : Code) (Y : YT) (A : Nat → Prop) (Q : State → Prop) (G : GH) (n k d' mc' ms' : Nat) (lc : List (Option AV)) (av rest : List AV) (post : Option AV → GH → Prop),
    Cx p s m args c meth Y A own cc ini → c.maxLocals = nL → lc.length = nL → Cd l y cc' maxL' ret' d' mc' ms' Y av G post → av.length = na → (cis ≠ [] → ∃ b ci fs, av.head? = some (.inr (.inr (some b))) ∧ G b = some (.inr (ci, fs)) ∧ ci ∈ cis) → rest.length ≤ 4 → Rq R n k d' mc' ms' maxL' →
    (∀ r G', post r G' → V p l e R s m args below meth c Y A Q (pc + 3) G' (n + mc') (k + ms') lc (r.toList ++ rest)) → V p l e R s m args below meth c Y A Q pc G n k lc (av.reverse ++ rest)
theorem CS.go {own : String} {cc : ByteArray} {ini : Prop} {pc nL : Nat} {y : MethodName} {cc' : ByteArray} {maxL' : Nat} {ret' : Option FieldType} {na : Nat} {cis : List Nat} (h : CS own cc ini pc nL y cc' maxL' ret' na cis)
    {p : Program} {l : Launch} {e : Env} {R : Room} {s : State} {m : MethodId} {args : Array Value} {below : List Frame} {meth : Method} {c : Code} {Y : YT} {A : Nat → Prop} {Q : State → Prop} {G : GH} {n k d' mc' ms' : Nat} {lc : List (Option AV)} {av rest st : List AV} {post : Option AV → GH → Prop} {ret : Option FieldType}
    (C : Cx p s m args c meth Y A own cc ini) (X : Rx meth c ret nL) (ct : Cd l y cc' maxL' ret' d' mc' ms' Y av G post) (hst : st = av.reverse ++ rest) (hlc : lc.length = nL) (hna : av.length = na) (hv : cis ≠ [] → ∃ b ci fs, av.head? = some (.inr (.inr (some b))) ∧ G b = some (.inr (ci, fs)) ∧ ci ∈ cis) (hrl : rest.length ≤ 4) (hR : Rq R n k d' mc' ms' maxL')
    (kk : ∀ r G', post r G' → V p l e R s m args below meth c Y A Q (pc + 3) G' (n + mc') (k + ms') lc (r.toList ++ rest)) : V p l e R s m args below meth c Y A Q pc G n k lc st :=
  hst ▸ h p l e R s m args below meth c Y A Q G n k d' mc' ms' lc av rest post C X.2.2 hlc ct hna hv hrl hR kk
section VCS2
variable {own : String} {cc : ByteArray} {ini : Prop} {pc nL : Nat} {y : MethodName} {cc' : ByteArray} {maxL' : Nat} {ret' : Option FieldType}
theorem map_rev (av rest : List AV) : (av.reverse ++ rest).map cvv = (av.map cvv).reverse ++ rest.map cvv := by simp
theorem map_rev1 (b : Nat) (As rest : List AV) : (((.inr (.inr (some b)) :: As : List AV)).reverse ++ rest).map cvv = (As.map cvv).reverse ++ .ref b :: rest.map cvv := by simp [cvv, va_rf]
/-- the callee's name has no place among the machine's own handles, and takes np values -/
def yOk (y : MethodName) (np : Nat) : Prop := y.cls ≠ "java/lang/invoke/MethodHandle" ∧ y.cls ≠ "java/lang/invoke/VarHandle" ∧ (parseMethodDescriptor y.desc).map (fun d => d.parameters.length) = some np
theorem CS_static {i : Nat} (np : Nat) (hd : decode cc pc = .ok (.invokestatic i, 3)) (hc : Jvm.Cond.code y cc' maxL' ret' ∈ tg) (h1 : Jvm.Cond.methodLink own i y ∈ tg) (h2 : Jvm.Cond.static y ∈ tg) (h3 : Jvm.Cond.initialized y.cls ∈ tg) (hy : yOk y np) : CS own cc ini pc nL y cc' maxL' ret' np [] := by
  intro p l e R s m args below meth c Y A Q G n k d' mc' ms' lc av rest post C hml hlc ct hna hv hrl hR kk
  refine V_call (rest := rest) (a := (av.map cvv).toArray) C (fun L H locs ls g1 g2 g3 g4 g5 => ?_) kk
  exact va_runS (As := av.map cvv) (rest := rest.map cvv) (g := F0 m pc ls ((av.reverse ++ rest).map cvv)) ⟨C.1, C.2.1, hml, C.2.2.1, C.2.2.2.1⟩ (ct H.size) (va_cwS np C.2.2.2.1 (tg_app (fun w hw => by rcases List.mem_cons.mp hw with rfl | hw; exact h1; rcases List.mem_cons.mp hw with rfl | hw; exact h2; rw [List.mem_singleton.mp hw]; exact h3) (good_cons hc)) rfl rfl rfl hy ⟨hR.1, hR.2.1⟩) ⟨PC_blind, PC_at C g1 g2 g3 g4⟩ rfl (by rw [List.length_map]; exact hna) (g5.1.trans hlc) (map_rev av rest) (lv_room (room_cat hrl)) hd ⟨hR.2.2.1, hR.2.2.2⟩
theorem CS_staticN {i : Nat} {host : String} (np : Nat) (hd : decode cc pc = .ok (.invokestatic i, 3)) (hc : Jvm.Cond.code y cc' maxL' ret' ∈ tg) (h1 : (own, i, y, host) ∈ tnM) (h2 : Jvm.Cond.static y ∈ tg) (h3 : Jvm.Cond.initialized y.cls ∈ tg) (hy : yOk y np) : CS own cc ini pc nL y cc' maxL' ret' np [] := by
  intro p l e R s m args below meth c Y A Q G n k d' mc' ms' lc av rest post C hml hlc ct hna hv hrl hR kk
  refine V_call (rest := rest) (a := (av.map cvv).toArray) C (fun L H locs ls g1 g2 g3 g4 g5 => ?_) kk
  exact va_runSN (host := host) (As := av.map cvv) (rest := rest.map cvv) (g := F0 m pc ls ((av.reverse ++ rest).map cvv)) ⟨C.1, C.2.1, hml, C.2.2.1, C.2.2.2.1⟩ (ct H.size) ⟨va_cnB np C.2.2.2.1 (good_cons hc) rfl rfl rfl (C.2.2.2.2.1.2.2.2.2.2.2.1 _ h1) (C.2.2.2.1 _ h3) hy ⟨hR.1, hR.2.1⟩, C.2.2.2.1 _ h2, trivial⟩ ⟨PC_blind, PC_at C g1 g2 g3 g4⟩ rfl (by rw [List.length_map]; exact hna) (g5.1.trans hlc) (map_rev av rest) (lv_room (room_cat hrl)) hd ⟨hR.2.2.1, hR.2.2.2⟩
theorem CS_init {i : Nat} (np na : Nat) (hd : decode cc pc = .ok (.invokespecial i, 3)) (hc : Jvm.Cond.code y cc' maxL' none ∈ tg) (h1 : Jvm.Cond.methodLink own i y ∈ tg) (h2 : Jvm.Cond.instanceMethod y ∈ tg) (h3 : Jvm.Cond.initialized y.cls ∈ tg) (hn : y.name = "<init>") (hy : yOk y np) (hnp : np + 1 = na) (cis : List Nat) (hne : cis ≠ []) : CS own cc ini pc nL y cc' maxL' none na cis := by
  intro p l e R s m args below meth c Y A Q G n k d' mc' ms' lc av rest post C hml hlc ct hna hv hrl hR kk
  obtain ⟨b, ci, fs, hb, -, -⟩ := hv hne
  match av, hb, hna, ct with
  | .inr (.inr (some b')) :: As, hb, hna, ct =>
    cases hb
    refine V_call (rest := rest) (a := (Value.ref b :: As.map cvv).toArray) C (fun L H locs ls g1 g2 g3 g4 g5 => ?_) kk
    exact va_runI (b := b) (As := As.map cvv) (rest := rest.map cvv) (g := F0 m pc ls (((.inr (.inr (some b)) :: As : List AV).reverse ++ rest).map cvv)) ⟨C.1, C.2.1, hml, C.2.2.1, C.2.2.2.1⟩ (ct H.size) (cwI np C.2.2.2.1 (good_cons hc) rfl rfl rfl (C.2.2.2.1 _ h3) (C.2.2.2.1 _ h1) (C.2.2.2.1 _ h2) hn hy ⟨hR.1, hR.2.1⟩) ⟨PC_blind, PC_at C g1 g2 g3 g4⟩ rfl (by rw [List.length_map]; simp at hna; omega) (g5.1.trans hlc) (map_rev1 b As rest) (lv_room (room_cat hrl)) hd ⟨hR.2.2.1, hR.2.2.2⟩
theorem CS_initN {i : Nat} {host : String} (np na : Nat) (hd : decode cc pc = .ok (.invokespecial i, 3)) (hc : Jvm.Cond.code y cc' maxL' none ∈ tg) (h1 : (own, i, y, host) ∈ tnM) (h2 : Jvm.Cond.instanceMethod y ∈ tg) (h3 : Jvm.Cond.initialized y.cls ∈ tg) (hn : y.name = "<init>") (hy : yOk y np) (hnp : np + 1 = na) (cis : List Nat) (hne : cis ≠ []) : CS own cc ini pc nL y cc' maxL' none na cis := by
  intro p l e R s m args below meth c Y A Q G n k d' mc' ms' lc av rest post C hml hlc ct hna hv hrl hR kk
  obtain ⟨b, ci, fs, hb, -, -⟩ := hv hne
  match av, hb, hna, ct with
  | .inr (.inr (some b')) :: As, hb, hna, ct =>
    cases hb
    refine V_call (rest := rest) (a := (Value.ref b :: As.map cvv).toArray) C (fun L H locs ls g1 g2 g3 g4 g5 => ?_) kk
    exact va_runIN (host := host) (b := b) (As := As.map cvv) (rest := rest.map cvv) (g := F0 m pc ls (((.inr (.inr (some b)) :: As : List AV).reverse ++ rest).map cvv)) ⟨C.1, C.2.1, hml, C.2.2.1, C.2.2.2.1⟩ (ct H.size) ⟨va_cnB np C.2.2.2.1 (good_cons hc) rfl rfl rfl (C.2.2.2.2.1.2.2.2.2.2.2.1 _ h1) (C.2.2.2.1 _ h3) hy ⟨hR.1, hR.2.1⟩, hn, C.2.2.2.1 _ h2⟩ ⟨PC_blind, PC_at C g1 g2 g3 g4⟩ rfl (by rw [List.length_map]; simp at hna; omega) (g5.1.trans hlc) (map_rev1 b As rest) (lv_room (room_cat hrl)) hd ⟨hR.2.2.1, hR.2.2.2⟩
theorem CS_virt {i : Nat} (np na : Nat) (hd : decode cc pc = .ok (.invokevirtual i, 3)) (hc : Jvm.Cond.code y cc' maxL' ret' ∈ tg) (h1 : Jvm.Cond.methodLink own i y ∈ tg) (h2 : Jvm.Cond.instanceMethod y ∈ tg) (h3 : Jvm.Cond.initialized y.cls ∈ tg) (h4 : Jvm.Cond.selects y.cls y y ∈ tg) (hy : yOk y np) (hnp : np + 1 = na) (ci0 : Nat) {T : u_T} {N : Nat} (hcl : vwCl[ci0]? = some (y.cls, T, N)) : CS own cc ini pc nL y cc' maxL' ret' na [ci0] := by
  intro p l e R s m args below meth c Y A Q G n k d' mc' ms' lc av rest post C hml hlc ct hna hv hrl hR kk
  obtain ⟨b, ci, fs, hb, hG, hm⟩ := hv (fun h => by cases h)
  rw [List.mem_singleton] at hm
  subst hm
  match av, hb, hna, ct with
  | .inr (.inr (some b')) :: As, hb, hna, ct =>
    cases hb
    refine V_call (rest := rest) (a := (Value.ref b :: As.map cvv).toArray) C (fun L H locs ls g1 g2 g3 g4 g5 => ?_) kk
    exact va_runV (C := y.cls) (b := b) (As := As.map cvv) (rest := rest.map cvv) (g := F0 m pc ls (((.inr (.inr (some b)) :: As : List AV).reverse ++ rest).map cvv)) ⟨C.1, C.2.1, hml, C.2.2.1, C.2.2.2.1⟩ (ct H.size) (cwV np C.2.2.2.1 (tg_app (fun w hw => by rcases List.mem_cons.mp hw with rfl | hw; exact h1; rcases List.mem_cons.mp hw with rfl | hw; exact h2; rcases List.mem_cons.mp hw with rfl | hw; exact h4; rw [List.mem_singleton.mp hw]; exact h3) (good_cons hc)) rfl rfl rfl ⟨rfl, hy⟩ ⟨hR.1, hR.2.1⟩) ⟨PC_blind, G_recv C g1 g2 hG hcl, PC_at C g1 g2 g3 g4⟩ rfl (by rw [List.length_map]; simp at hna; omega) (g5.1.trans hlc) (map_rev1 b As rest) (lv_room (room_cat hrl)) hd ⟨hR.2.2.1, hR.2.2.2⟩
theorem CS_virtU {i : Nat} {x : MethodName} {owner : String} (np na : Nat) (hd : decode cc pc = .ok (.invokevirtual i, 3)) (hc : Jvm.Cond.code y cc' maxL' ret' ∈ tg) (hyx : y = ⟨owner, x.name, x.desc⟩) (h1 : Jvm.Cond.methodLink own i x ∈ tg) (hsm : Jvm.Cond.sameMethod x.cls owner x.name x.desc ∈ tg) (h2 : Jvm.Cond.instanceMethod y ∈ tg) (h3 : Jvm.Cond.initialized y.cls ∈ tg) (hy : owner ≠ "java/lang/invoke/MethodHandle" ∧ owner ≠ "java/lang/invoke/VarHandle" ∧ (parseMethodDescriptor x.desc).map (fun d => d.parameters.length) = some np) (hnp : np + 1 = na) (cis : List Nat) (hne : cis ≠ []) (hsel : ∀ ci ∈ cis, ∃ r, vwCl[ci]? = some r ∧ Jvm.Cond.selects r.1 x y ∈ tg) : CS own cc ini pc nL y cc' maxL' ret' na cis := by
  intro p l e R s m args below meth c Y A Q G n k d' mc' ms' lc av rest post C hml hlc ct hna hv hrl hR kk
  obtain ⟨b, ci, fs, hb, hG, hm⟩ := hv hne
  obtain ⟨r9, hcl, h4⟩ := hsel ci hm
  match av, hb, hna, ct with
  | .inr (.inr (some b')) :: As, hb, hna, ct =>
    cases hb
    refine V_call (rest := rest) (a := (Value.ref b :: As.map cvv).toArray) C (fun L H locs ls g1 g2 g3 g4 g5 => ?_) kk
    exact va_runU (C := r9.1) (owner := owner) (x := x) (b := b) (As := As.map cvv) (rest := rest.map cvv) (g := F0 m pc ls (((.inr (.inr (some b)) :: As : List AV).reverse ++ rest).map cvv)) ⟨C.1, C.2.1, hml, C.2.2.1, C.2.2.2.1⟩ (ct H.size) (va_cwU np C.2.2.2.1 (tg_app (fun w hw => by rcases List.mem_cons.mp hw with rfl | hw; exact h1; rcases List.mem_cons.mp hw with rfl | hw; exact hsm; rcases List.mem_cons.mp hw with rfl | hw; exact h4; rcases List.mem_cons.mp hw with rfl | hw; exact h2; rw [List.mem_singleton.mp hw]; exact h3) (good_cons hc)) rfl rfl rfl hyx hy ⟨hR.1, hR.2.1⟩) ⟨PC_blind, G_recv C g1 g2 hG hcl, PC_at C g1 g2 g3 g4⟩ rfl (by rw [List.length_map]; simp at hna; omega) (g5.1.trans hlc) (map_rev1 b As rest) (lv_room (room_cat hrl)) hd ⟨hR.2.2.1, hR.2.2.2⟩
end VCS2
