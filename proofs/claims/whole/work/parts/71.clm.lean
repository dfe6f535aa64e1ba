/-! calls with more below them on the stack; the class: meetInput, finishWorking -/
section CLM
theorem room_sm {rest : List AV} (h : rest.all sm = true) (hl : rest.length ≤ 8) : ((rest.map cvv).map fun v => v.category).sum ≤ 8 := by
  have : ∀ r : List AV, r.all sm = true → ((r.map cvv).map fun v => v.category).sum = r.length := by
    intro r
    induction r with
    | nil => intro _; rfl
    | cons v t ih =>
      intro h
      have h1 := List.all_cons ▸ h
      rw [Bool.and_eq_true] at h1
      simp only [List.map_cons, List.sum_cons, List.length_cons]
      rw [sm_cat h1.1, ih h1.2]
      omega
  rw [this rest h]; exact hl
/-- a call site, as CS, with up to eight values below the arguments -/
def CSx (own : String) (cc : ByteArray) (ini : Prop) (pc nL : Nat) (y : MethodName) (cc' : ByteArray) (maxL' : Nat) (ret' : Option FieldType) (na : Nat) (cis : List Nat) : Prop :=
  ∀ (p : Program) (l : Launch) (e : Env) (R : Room) (s : State) (m : MethodId) (args : Array Value) (below : List Frame) (meth : Method) (c : Code) (Y : YT) (A : Nat → Prop) (Q : State → Prop) (G : GH) (n k d' mc' ms' : Nat) (lc : List (Option AV)) (av rest : List AV) (post : Option AV → GH → Prop),
    Cx p s m args c meth Y A own cc ini → c.maxLocals = nL → lc.length = nL → Cd l y cc' maxL' ret' d' mc' ms' Y av G post → av.length = na → (cis ≠ [] → ∃ b ci fs, av.head? = some (.inr (.inr (some b))) ∧ G b = some (.inr (ci, fs)) ∧ ci ∈ cis) → rest.all sm = true → rest.length ≤ 8 → Rq R n k d' mc' ms' maxL' →
    (∀ r G', post r G' → V p l e R s m args below meth c Y A Q (pc + 3) G' (n + mc') (k + ms') lc (r.toList ++ rest)) → V p l e R s m args below meth c Y A Q pc G n k lc (av.reverse ++ rest)
theorem CSx.go {own : String} {cc : ByteArray} {ini : Prop} {pc nL : Nat} {y : MethodName} {cc' : ByteArray} {maxL' : Nat} {ret' : Option FieldType} {na : Nat} {cis : List Nat} (h : CSx own cc ini pc nL y cc' maxL' ret' na cis)
    {p : Program} {l : Launch} {e : Env} {R : Room} {s : State} {m : MethodId} {args : Array Value} {below : List Frame} {meth : Method} {c : Code} {Y : YT} {A : Nat → Prop} {Q : State → Prop} {G : GH} {n k d' mc' ms' : Nat} {lc : List (Option AV)} {av rest st : List AV} {post : Option AV → GH → Prop} {ret : Option FieldType}
    (C : Cx p s m args c meth Y A own cc ini) (X : Rx meth c ret nL) (ct : Cd l y cc' maxL' ret' d' mc' ms' Y av G post) (hst : st = av.reverse ++ rest) (hlc : lc.length = nL) (hna : av.length = na) (hv : cis ≠ [] → ∃ b ci fs, av.head? = some (.inr (.inr (some b))) ∧ G b = some (.inr (ci, fs)) ∧ ci ∈ cis) (hrs : rest.all sm = true) (hrl : rest.length ≤ 8) (hR : Rq R n k d' mc' ms' maxL')
    (kk : ∀ r G', post r G' → V p l e R s m args below meth c Y A Q (pc + 3) G' (n + mc') (k + ms') lc (r.toList ++ rest)) : V p l e R s m args below meth c Y A Q pc G n k lc st :=
  hst ▸ h p l e R s m args below meth c Y A Q G n k d' mc' ms' lc av rest post C X.2.2 hlc ct hna hv hrs hrl hR kk
section VCS3
variable {own : String} {cc : ByteArray} {ini : Prop} {pc nL : Nat} {y : MethodName} {cc' : ByteArray} {maxL' : Nat} {ret' : Option FieldType}
theorem CS_staticx {i : Nat} (np : Nat) (hd : decode cc pc = .ok (.invokestatic i, 3)) (hc : Jvm.Cond.code y cc' maxL' ret' ∈ tg) (h1 : Jvm.Cond.methodLink own i y ∈ tg) (h2 : Jvm.Cond.static y ∈ tg) (h3 : Jvm.Cond.initialized y.cls ∈ tg) (hy : yOk y np) : CSx own cc ini pc nL y cc' maxL' ret' np [] := by
  intro p l e R s m args below meth c Y A Q G n k d' mc' ms' lc av rest post C hml hlc ct hna hv hrs hrl hR kk
  refine V_call (rest := rest) (a := (av.map cvv).toArray) C (fun L H locs ls g1 g2 g3 g4 g5 => ?_) kk
  exact va_runS (As := av.map cvv) (rest := rest.map cvv) (g := F0 m pc ls ((av.reverse ++ rest).map cvv)) ⟨C.1, C.2.1, hml, C.2.2.1, C.2.2.2.1⟩ (ct H.size) (va_cwS np C.2.2.2.1 (tg_app (fun w hw => by rcases List.mem_cons.mp hw with rfl | hw; exact h1; rcases List.mem_cons.mp hw with rfl | hw; exact h2; rw [List.mem_singleton.mp hw]; exact h3) (good_cons hc)) rfl rfl rfl hy ⟨hR.1, hR.2.1⟩) ⟨PC_blind, PC_at C g1 g2 g3 g4⟩ rfl (by rw [List.length_map]; exact hna) (g5.1.trans hlc) (map_rev av rest) (lv_room (room_sm hrs hrl)) hd ⟨hR.2.2.1, hR.2.2.2⟩
theorem CS_virtx {i : Nat} (np na : Nat) (hd : decode cc pc = .ok (.invokevirtual i, 3)) (hc : Jvm.Cond.code y cc' maxL' ret' ∈ tg) (h1 : Jvm.Cond.methodLink own i y ∈ tg) (h2 : Jvm.Cond.instanceMethod y ∈ tg) (h3 : Jvm.Cond.initialized y.cls ∈ tg) (h4 : Jvm.Cond.selects y.cls y y ∈ tg) (hy : yOk y np) (hnp : np + 1 = na) (ci0 : Nat) {T : u_T} {N : Nat} (hcl : vwCl[ci0]? = some (y.cls, T, N)) : CSx own cc ini pc nL y cc' maxL' ret' na [ci0] := by
  intro p l e R s m args below meth c Y A Q G n k d' mc' ms' lc av rest post C hml hlc ct hna hv hrs hrl hR kk
  obtain ⟨b, ci, fs, hb, hG, hm⟩ := hv (fun h => by cases h)
  rw [List.mem_singleton] at hm
  subst hm
  match av, hb, hna, ct with
  | .inr (.inr (some b')) :: As, hb, hna, ct =>
    cases hb
    refine V_call (rest := rest) (a := (Value.ref b :: As.map cvv).toArray) C (fun L H locs ls g1 g2 g3 g4 g5 => ?_) kk
    exact va_runV (C := y.cls) (b := b) (As := As.map cvv) (rest := rest.map cvv) (g := F0 m pc ls (((.inr (.inr (some b)) :: As : List AV).reverse ++ rest).map cvv)) ⟨C.1, C.2.1, hml, C.2.2.1, C.2.2.2.1⟩ (ct H.size) (cwV np C.2.2.2.1 (tg_app (fun w hw => by rcases List.mem_cons.mp hw with rfl | hw; exact h1; rcases List.mem_cons.mp hw with rfl | hw; exact h2; rcases List.mem_cons.mp hw with rfl | hw; exact h4; rw [List.mem_singleton.mp hw]; exact h3) (good_cons hc)) rfl rfl rfl ⟨rfl, hy⟩ ⟨hR.1, hR.2.1⟩) ⟨PC_blind, G_recv C g1 g2 hG hcl, PC_at C g1 g2 g3 g4⟩ rfl (by rw [List.length_map]; simp at hna; omega) (g5.1.trans hlc) (map_rev1 b As rest) (lv_room (room_sm hrs hrl)) hd ⟨hR.2.2.1, hR.2.2.2⟩
end VCS3
theorem kx_finishWorking_136 : CSx RX8 cX8_finishWorking False 136 3 yX7_earlierFailures cX7_earlierFailures 3 (some (FieldType.array (FieldType.object "PromiseKitchen$Failure"))) 1 [7] := CS_virtx 0 1 (show decode cX8_finishWorking 136 = .ok (.invokevirtual 390, 3) by decide +kernel) q_876 q_873 q_874 q_89 q_875 (show yOk yX7_earlierFailures 0 from ⟨by decide +kernel, by decide +kernel, by decide +kernel⟩) rfl 7 (T := TX7) (N := 26) rfl
variable {l : Launch} {Y : YT}
def bsO (K : MS) (i : Nat) : Int32 := K 2 0 + K 23 i - K 23 i / nI 2
/-- the nested work i meets the end of its input, or waits -/
def mtF (K : MS) (F i : Nat) : MS := failK (newFK K (F + 1) (nI 12) (K 10 i) (K 18 (iK K i 0)) 0 (fun _ => 0)) i (nI (F + 1))
def mtW (K : MS) (i : Nat) : MS := jrnK (up2 K 16 i (nI 3)) (K 2 0) (K 10 i) (nI 5)
def mtK (K : MS) (F i : Nat) : MS := if K 16 (iK K i 0) = nI 5 then bsK K i (K 2 0) else if K 16 (iK K i 0) = nI 6 then mtF K F i else if K 16 (iK K i 0) = nI 7 then offK K i else mtW K i
def mtN (K : MS) (F i : Nat) : Nat := if K 16 (iK K i 0) = nI 6 then F + 1 else F
def mtL (K : MS) (L : KL) (i : Nat) : KL := if K 16 (iK K i 0) = nI 5 then mrkL L (bsO K i).toNatClampNeg else L
def mtC (K : MS) (i : Nat) : Nat := if K 16 (iK K i 0) = nI 5 then 0 else if K 16 (iK K i 0) = nI 6 then 40 else if K 16 (iK K i 0) = nI 7 then 0 else jcK K
theorem n56 : ¬ nI 6 = nI 5 := by decide +kernel
theorem n75 : ¬ nI 7 = nI 5 := by decide +kernel
theorem n76 : ¬ nI 7 = nI 6 := by decide +kernel
set_option maxHeartbeats 2000000 in
theorem k_meetInput (d : Nat) (G : GH) (A : AS) (n F : Nat) (K : MS) (L : KL) (i0 w : Nat) (hR : KR Y G A n F K L) (hi : 1 ≤ i0 ∧ i0 ≤ n) (hw : isWK K i0 = true) (hin : inK K n i0) (hk1 : 1 ≤ nN K 12 i0) (hj : jrOk K) (hF : F + 1 ≤ 2000) (hb : bsO K i0 = nI w) (hw2 : w ≤ 100000) : Cd l yX8_meetInput cX8_meetInput 3 none (d + 3) ((mtC K i0)) ((mtC K i0)) Y [.inr (.inr (some (A 0 0))), .inr (.inr (some (A 1 i0)))] G (fun r G' => r = none ∧ ∃ A', KR Y G' A' n (mtN K F i0) (mtK K F i0) (mtL K L i0) ∧ AK A A') := by
  refine Ct.of (ini := False) (by decide +kernel) False.elim rfl (Nat.le_of_ble_eq_true rfl) ?_
  intro p e s m args below meth c C X
  have hn := hR.2.2.1
  obtain ⟨-, f2, f3⟩ := hin.2.2 0 (by omega)
  refine b_X8_meetInput_0.go C ⟨trivial, ?_⟩
  refine k_X8_meetInput_1.go C X (k_firstInput (d + 2) G A n F K L i0 hR hi hin hk1) (rest := []) rfl rfl rfl (fun _ => ⟨_, _, _, rfl, hR.wk (by omega) hw, by decide⟩) (lb rfl) (Rq.of (by omega) (by decide) (Nat.zero_le _) (Nat.zero_le _)) ?_
  rintro r G9 ⟨h9, rfl⟩
  replace h9 := h9.symm
  subst h9
  refine b_X8_meetInput_4.go C ⟨_, _, hR.st (by omega), stC_ci _, fun h4 => ⟨trivial, ?_⟩, fun h4 => ⟨trivial, ?_⟩⟩
  rotate_left
  · have h5 : K 16 (iK K i0 0) = nI 5 := h4
    have hm : ∀ a, a ≤ 0 → a ≤ mtC K i0 := fun a h => by omega
    refine b_X8_meetInput_13.go C ⟨_, hR.mn, trivial, ?_⟩
    refine k_X8_meetInput_18.go C X (c_beginSecondPart (d + 2) G (A 1 i0) (K 2 0) _ _ (hR.wk hi hw)) (rest := []) rfl rfl rfl (fun _ => ⟨_, _, _, rfl, hR.wk (by omega) hw, by decide⟩) (lb rfl) (Rq.of (by omega) (by decide) (Nat.zero_le _) (Nat.zero_le _)) ?_
    rintro r G9 ⟨rfl, rfl⟩
    have R2 := hR.bs hi hw (K 2 0)
    refine b_X8_meetInput_21.go C ⟨_, R2.mn, _, up_eq, trivial, ?_⟩
    refine k_X8_meetInput_29.go C X (k_mark (d + 1) _ A n F (bsK K i0 (K 2 0)) L w R2 hw2) (rest := []) (show _ = _ from congrArg (fun z : Int32 => ([.inl z, .inr (.inr (some (A 15 0)))] : List AV)) hb) rfl rfl (fun _ => ⟨_, _, _, rfl, R2.ag, by decide⟩) (lb rfl) (Rq.of (by omega) (by decide) (Nat.zero_le _) (Nat.zero_le _)) ?_
    rintro r G8 ⟨rfl, R3⟩
    refine b_X8_meetInput_32.go C ⟨trivial, ?_⟩
    exact V_vret C X d_X8_meetInput_109 (by show _ ≤ ((mtC K i0)); omega) (by show _ ≤ ((mtC K i0)); omega) ⟨rfl, A, by rw [mtN, if_neg (by rw [h5]; decide +kernel), mtK, if_pos h5, mtL, if_pos h5, hb, nI_clamp (by omega)]; exact R3, AK.rf A⟩
  have h5 : ¬ K 16 (iK K i0 0) = nI 5 := h4
  refine b_X8_meetInput_35.go C ⟨_, _, hR.st (by omega), stC_ci _, fun h35 => ⟨trivial, ?_⟩, fun h35 => ⟨trivial, ?_⟩⟩
  rotate_left
  · have h6 : K 16 (iK K i0 0) = nI 6 := h35
    have hc9 : mtC K i0 = 40 := by rw [mtC, if_neg h5, if_pos h6]
    refine b_X8_meetInput_44.go C ⟨by show _ ≤ mtC K i0; omega, by show _ ≤ mtC K i0; omega, fun qf hqf => ?_⟩
    have R1 := hR.fresh hqf (fC 0 0 none none 0 0 0 0 none)
    refine ⟨_, R1.wk hi hw, _, _, R1.st ⟨f2, f3⟩, stC_ci _, 0, rfl, by omega, by show _ ≤ mtC K i0; omega, by show _ ≤ mtC K i0; omega, fun qs hqs => ⟨trivial, ?_⟩⟩
    have hne : qf ≠ qs := ne_none up_eq hqs
    have hqs' : G qs = none := (up_ne (Ne.symm hne)).symm.trans hqs
    refine k_X8_meetInput_63.go C X (c_Failure4 (d + 1) _ qf (nI 12) (K 10 i0) (dec A 6 (K 18 (iK K i0 0))) (some qs) ((up_ne hne).trans up_eq)) (rest := [.inr (.inr (some qf)), .inr (.inr (some (A 1 i0)))]) rfl rfl rfl (fun _ => ⟨_, _, _, rfl, (up_ne hne).trans up_eq, by decide⟩) (lb rfl) (Rq.of (by omega) (by decide) (by show _ ≤ mtC K i0; omega) (by show _ ≤ mtC K i0; omega)) ?_
    rintro r G9 ⟨rfl, rfl⟩
    rw [up_comm hne, bx_uu]
    obtain ⟨w0, σ0, ρ0, hst, A', hSP, hX⟩ := SP.fl (g := fun _ => none) (kd := nI 12) (ca := K 18 (iK K i0 0)) (sup := fun _ => 0) (ns := 0) hR hi hF hqs' hqf (Ne.symm hne) (hR.2.2.2.2.2 18 (iK K i0 0) (by decide) ⟨f2, f3⟩) (fun _ => Nat.zero_le _) (by omega) (fun _ => (dec_0 rfl).symm)
    have hw0 : w0 = true := by
      have h1 := R1.wk hi hw
      have h2 := (up_ne (ne_none (hR.wk hi hw) hqf)).symm.trans hst
      have h3 := (up_ne (ne_none (hR.wk hi hw) hqs')).symm.trans h2
      rw [hR.wk hi hw] at h3
      have := congrArg (fun (o : Option AC) => match o with | some (.inr (ci, _)) => ci | _ => 0) h3
      cases w0 with
      | true => rfl
      | false => exact absurd (show (7 : Nat) = 6 from this) (by decide)
    subst hw0
    refine k_X8_meetInput_66.go C X (c_fail (d + 2) _ (A 1 i0) true σ0 ρ0 (some qf) hst) (rest := []) rfl rfl rfl (fun _ => ⟨_, _, _, rfl, hst, by decide⟩) (lb rfl) (Rq.of (by omega) (by decide) (by show _ ≤ mtC K i0; omega) (by show _ ≤ mtC K i0; omega)) ?_
    rintro r G9 ⟨rfl, rfl⟩
    refine b_X8_meetInput_69.go C ⟨trivial, ?_⟩
    exact V_vret C X d_X8_meetInput_109 (by show _ ≤ ((mtC K i0)); omega) (by show _ ≤ ((mtC K i0)); omega) ⟨rfl, A', by rw [mtN, if_pos h6, mtK, if_neg h5, if_pos h6, mtL, if_neg h5]; exact hSP, hX.ak⟩
  have h6 : ¬ K 16 (iK K i0 0) = nI 6 := h35
  refine b_X8_meetInput_72.go C ⟨_, _, hR.st (by omega), stC_ci _, fun h72 => ⟨trivial, ?_⟩, fun h72 => ⟨trivial, ?_⟩⟩
  rotate_left
  · have h7 : K 16 (iK K i0 0) = nI 7 := h72
    refine b_X8_meetInput_81.go C ⟨trivial, ?_⟩
    refine k_X8_meetInput_82.go C X (c_dismiss (d + 2) G (A 1 i0) _ _ _ (hR.wk hi hw)) (rest := []) rfl rfl rfl (fun _ => ⟨_, _, _, rfl, hR.wk (by omega) hw, by decide⟩) (lb rfl) (Rq.of (by omega) (by decide) (Nat.zero_le _) (Nat.zero_le _)) ?_
    rintro r G9 ⟨rfl, rfl⟩
    refine b_X8_meetInput_85.go C ⟨trivial, ?_⟩
    exact V_vret C X d_X8_meetInput_109 (by show _ ≤ ((mtC K i0)); omega) (by show _ ≤ ((mtC K i0)); omega) ⟨rfl, A, by rw [mtN, if_neg h6, mtK, if_neg h5, if_neg h6, if_pos h7, mtL, if_neg h5]; exact (by have := hR.off hi; rw [hw] at this; exact this), AK.rf A⟩
  have h7 : ¬ K 16 (iK K i0 0) = nI 7 := h72
  have hc9 : mtC K i0 = jcK K := by rw [mtC, if_neg h5, if_neg h6, if_neg h7]
  have hjc : jcK (up2 K 16 i0 (nI 3)) = jcK K := rfl
  have R1_ := hR.pW (i := i0) (by omega) hw 6 (nI 3) rfl
  refine b_X8_meetInput_88.go C ⟨_, hR.wk (by omega) hw, _, R1_.mn, _, R1_.mn, _, R1_.wk (by omega) hw, trivial, ?_⟩
  refine k_X8_meetInput_106.go C X (k_enter d _ A n F (up2 K 16 i0 (nI 3)) L (K 2 0) (K 10 i0) (nI 5) R1_ hj) (rest := []) rfl rfl rfl (fun _ => ⟨_, _, _, rfl, R1_.jr, by decide⟩) (lb rfl) (Rq.of (by omega) (by decide) (by show _ ≤ mtC K i0; omega) (by show _ ≤ mtC K i0; omega)) ?_
  rintro r G9 ⟨rfl, A1, R9, hA⟩
  exact V_vret C X d_X8_meetInput_109 (by show _ ≤ mtC K i0; omega) (by show _ ≤ mtC K i0; omega) ⟨rfl, A1, by rw [mtN, if_neg h6, mtK, if_neg h5, if_neg h6, if_neg h7, mtL, if_neg h5]; exact R9, hA⟩
end CLM
