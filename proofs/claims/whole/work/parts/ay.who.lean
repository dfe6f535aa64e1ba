/-! THE CLAIM OUT OF ONE WALK OF THE LAW'S BODY. Your part is whole_start (and what it stands on); all else here is the same for every law, but numbers. -/
def R_law : String := "PromiseKitchenLaw"
def lw_P (b : Addr) (xs : List Int32) (args : Array Value) (s : State) : Prop := args = #[.ref b] ∧ s.IntsAt b xs ∧ xs.length ≤ 3072 ∧ (Jvm.Cond.and given_1 narrow_1).before args s = true
def lw_Q (_ : Array Value) (s : State) (o : Outcome) (t : State) : Prop := o = .returned (some (.int 1)) ∧ Framed s o t [] 601024 7293034
def lw_Z (below : List Frame) (a : Array Value) (s : State) : State → Prop := fun t => ∃ o, t.status = .running ∧ Ended t below o ∧ lw_Q a s o t
/-- the law's own end, with 1 on the stack, nothing written that was there before, its room as the claim has it -/
theorem lw_ret {p : Program} {l : Launch} {e : Env} {s : State} {m : MethodId} {below : List Frame} {meth : Method} {c : Code} {b : Nat} (hx : p.tables.exec = Jvm.exec) (hb : c.code = code) (hr : meth.sig.returnType = ret) (hlocks : meth.locks = false) {pc : Nat} {H : Heap} {ls : Array Slot} (hdg : decode code pc = .ok (.ireturn, 1)) : W p l e room_1 s m #[Value.ref b] below meth c H [] 601024 7293034 (lw_Z below #[Value.ref b] s) (F0 m pc ls [.int 1]) := by
  intro T hT X
  obtain ⟨fs, hret, hrun, hended, hW, hframe⟩ := X.leave (v := some (.int 1)) (hlocks := hlocks) (fun h => by rw [hr] at h; cases h)
  have hmeth' : T.vm.method? m = some meth := X.method'
  refine ⟨T.setFrames fs, ?_, .returned (some (.int 1)), hrun, hended, rfl, ⟨_, rfl⟩, hW, hframe⟩
  jvm_step X.here [X.here.top, hx, hb, hdg, hmeth', hr, ret, narrow_b1]
  (try refine ⟨rfl, ?_⟩); (try refine ⟨rfl, ?_⟩)
  first | (intro acts; rw [hret _ acts rfl rfl rfl]) | rw [hret _ _ rfl rfl rfl]
  exact Steps.refl _
/-- what holds at the law's entry: the machine, the code, the tables' words (any of lw_tbl by 'hts w (by decide +kernel)'), the script of L ints xs at the cell b, what the Statement gives of the start (any of its parts by flat_of_before) -/
def lw_At (p : Program) (s : State) (m : MethodId) (meth : Method) (c : Code) (b L : Nat) (xs : Nat → Int32) : Prop :=
  p.tables.exec = Jvm.exec ∧ c.code = code ∧ meth.sig.returnType = ret ∧ c.maxLocals = 7 ∧ s.vm.findClass R_law = some m.cls ∧ (∀ w ∈ lw_tbl, w.before #[Value.ref b] s = true) ∧ va_X b L xs s s.heap ∧ b < s.heap.size ∧ meth.locks = false ∧ (Jvm.Cond.and given_1 narrow_1).before #[Value.ref b] s = true
theorem ph_K0 : PhK K01 0 ≤ 279000 := by rw [PhK_01]; decide +kernel
set_option maxHeartbeats 2000000 in
/-- from the entry the law comes to its end with true -/
theorem whole_start {p : Program} {e : Env} {s : State} {m : MethodId} {below : List Frame} {meth : Method} {c : Code} (l : Launch) (hl : l.stackTraces = false) {b L : Nat} {xs : Nat → Int32} (hL : L ≤ 3072) (C0 : lw_At p s m meth c b L xs) : W p l e room_1 s m #[Value.ref b] below meth c s.heap [] 0 0 (lw_Z below #[Value.ref b] s) (entryFrame m ([Value.ref b] : List Value).toArray 7) := by
  obtain ⟨hx, hb, hr, hml, hown, hts, hX, hbl, hlk, hgv⟩ := C0
  obtain ⟨Y, hK, hE⟩ := st_world hts (flat_of_before _ hgv)
  have C : Cx p s m #[Value.ref b] c meth Y (fun q => s.heap.size ≤ q) RL cL_law False := ⟨hx, hb, hown, tg_all hts, hK, fun q h => h, False.elim⟩
  have X : Rx meth c ret 7 := ⟨hr, hlk, hml⟩
  have hs : Scr s (fun q => s.heap.size ≤ q) b L xs := ⟨hX, hbl, fun h => by have h2 : s.heap.size ≤ b := h; omega, hL⟩
  have fin : ∀ xa mx u G n k i x5 x6, n ≤ 601024 → k ≤ 7293034 → V p l e room_1 s m #[Value.ref b] below meth c Y (fun q => s.heap.size ≤ q) (lw_Z below #[Value.ref b] s) 1325 G n k (lcL b xa mx u i x5 x6) [] := by
    intro xa mx u G n k i x5 x6 hn hk
    refine b_L_law_1325.go C ⟨trivial, ?_⟩
    intro L9 H locs ls h1 h2 h3 h4 h5
    refine W.widen (k := 601024) (n := 7293034) hn hk ?_
    refine va_forget (fun q hq => h4.2.2 q hq) ?_
    exact lw_ret hx hb hr hlk d_L_law_1326
  have hV : V p l e room_1 s m #[Value.ref b] below meth c Y (fun q => s.heap.size ≤ q) (lw_Z below #[Value.ref b] s) 0 (fun _ => none) 0 0 (lc0 [.inr (.inr (some b))] 7) [] := by
    refine b_L_law_0.go C ⟨by show 0 + 1 ≤ 601024; omega, by show 0 + 12 ≤ 7293034; omega, fun q hq => ⟨trivial, ?_⟩⟩
    refine k_L_law_4.go C X (k_init 9 _ q up_eq) (rest := [.inr (.inr (some q))]) rfl rfl rfl (fun _ => ⟨q, 8, _, rfl, up_eq, by decide⟩) (lb rfl) (Rq_1 (by decide) (by decide) (by omega) (by omega)) ?_
    rintro r G1 ⟨rfl, A1, R1, eA⟩
    refine b_L_law_7.go C ⟨by show 0 + 1 + 36 + 1 ≤ 601024; omega, by show 0 + 12 + 850 + 66 ≤ 7293034; omega, fun q2 hq2 => ⟨trivial, ?_⟩⟩
    have sp0 : ∀ v : AC, Sp (va_up G1 q2 (some v)) (va_up (fun _ => none) q2 (some v)) := fun v a ha => by
      by_cases e9 : a = q2
      · rw [e9, up_eq, up_eq]
      · rw [up_ne e9] at ha; exact absurd rfl ha
    refine k_L_law_12.go C X ((r_init 13 (va_up (fun _ => none) q2 (some (.inr (9, rfP 0 (fun _ => 0) M00)))) q2 up_eq).frame (sp0 _)) (rest := [.inr (.inr (some q2))]) rfl rfl rfl (fun _ => ⟨q2, 9, _, rfl, up_eq, by decide⟩) (lb rfl) (Rq_1 (by decide) (by decide) (by omega) (by omega)) ?_
    rintro r G3 ⟨GR, ⟨rfl, ra, hM⟩, t1, t2⟩
    have key : ∀ a, G1 a ≠ none → G3 a = G1 a ∧ GR a = none := fun a ha => by
      have e9 : a ≠ q2 := fun z => ha (by rw [z]; exact hq2)
      have h := t2 a (up_ne e9) (by rw [up_ne e9]; exact ha)
      rw [up_ne e9] at h
      exact h
    refine b_L_law_15.go C ⟨1, rfl, by decide, by show 0 + 1 + 36 + 1 + 54 + 1 ≤ 601024; omega, by show 0 + 12 + 850 + 66 + 89708 + 1 ≤ 7293034; omega, fun q3 hq3 => ⟨trivial, ?_⟩⟩
    have n1 : ∀ a, G1 a ≠ none → a ≠ q3 := fun a ha z => ha (by rw [← (key a ha).1, z]; exact hq3)
    have n2 : ∀ a, GR a ≠ none → a ≠ q3 := fun a ha z => ha (by rw [← t1 a ha, z]; exact hq3)
    have hLh : Lh q3 (va_up G3 q3 (some (.inl (1, 1, .inr (.inl (fun _ => 0)))))) G1 GR (fun _ => 0) := by
      refine ⟨fun a ha => (up_ne (n1 a ha)).trans (key a ha).1, fun a ha => (up_ne (n2 a ha)).trans (t1 a ha), fun a => ?_, ?_, ?_, up_eq⟩
      · by_cases ha : G1 a = none
        · exact Or.inl ha
        · exact Or.inr (key a ha).2
      · exact Classical.byContradiction (fun z => n1 q3 z rfl)
      · exact Classical.byContradiction (fun z => n2 q3 z rfl)
    have hp := ph_K0
    exact V_loop C X hE hl hs (fin q q2 q3) 512 0 rfl _ _ _ none none ⟨G1, GR, ra, 0, PhK K01 0, _, hLh, ⟨A1, 0, 1, 0, 0, K01, L0, M0, KR_01 R1, eA, hM, Rst_0.1, Rst_0.2, Nat.le_refl _⟩, by omega, by omega, by omega⟩
  have h0 := hV [] s.heap [] ((lg_sl ([.inr (.inr (some b))].map cvv) ++ List.replicate (7 - (lg_sl ([.inr (.inr (some b))].map cvv)).length) Slot.unset).toArray) (fun a => ⟨fun h => (nomatch h), fun h => absurd rfl h⟩) (fun k q h => (nomatch h)) ⟨fun i j p q h => (nomatch h), fun k q h => (nomatch h)⟩ va_S.rf (lcs_entry (av := [.inr (.inr (some b))]) rfl (lb rfl))
  have e9 : entryFrame m ([Value.ref b] : List Value).toArray 7 = entryFrame m (([.inr (.inr (some b))] : List AV).map cvv).toArray 7 := rfl
  rw [e9, lg_entry_eq]
  exact h0
-- ===== YOUR PART ENDS =====
set_option maxHeartbeats 4000000 in
theorem lw_walk (l : Launch) (hl : l.stackTraces = false) (b : Addr) (xs : List Int32) : MetFree l x (headSpec (Jvm.Cond.code x code maxLocals ret :: tables_1) room_1) (lw_P b xs) (fun _ _ _ _ _ => True) lw_Q := by
  refine MetFree.of_bodyS (code := code) (maxLocals := maxLocals) (ret := ret) (by decide) ?_ ?_
  · intro args s m h hn
    obtain ⟨meth, c, h1, h2, h3, h4, h5, h6, -, -⟩ := Cond.code_spec hn (atoms_spec (ws := Jvm.Cond.code x code maxLocals ret :: tables_1) h _ List.mem_cons_self)
    exact ⟨meth, c, h1, h2, h3, h4, h5, h6⟩
  · intro p e s m args below meth c s₁ B hml0 hP _
    obtain ⟨rfl, hx, hbd, hgv⟩ := hP
    obtain ⟨scr, harrAt, hlist, hof, hsmall⟩ := hx
    obtain ⟨hcb, hkn, -, -⟩ := State.arrayAt?_spec harrAt
    have hown : s.vm.findClass R_law = some m.cls := findClass_of_methodNamed B.named
    have hts0 : ∀ c ∈ (Jvm.Cond.code x code maxLocals ret :: tables_1), c.before #[Value.ref b] s = true := atoms_spec (ws := Jvm.Cond.code x code maxLocals ret :: tables_1) B.pre
    have hts : ∀ w ∈ lw_tbl, w.before #[Value.ref b] s = true := k2_hts_sels lw_privs (fun w hw => hts0 w (List.mem_cons_of_mem _ hw)) lw_privs_ok
    have hml : c.maxLocals = 7 := B.maxLocals_eq (hts0 _ List.mem_cons_self)
    have X₀ : Stand p l e room_1 s m #[Value.ref b] below meth c s₁ [] 0 0 := Stand.of_body B
    have hh0 : s₁.heap = s.heap := by rw [B.state]; rfl
    have hsz : scr.slots.size = xs.length := by rw [← Array.length_toList, hlist, List.length_map]
    have hval : ∀ j : Nat, j < xs.length → scr.slots[j]? = some (.int (xs.getD j 0)) := fun j hj => by
      rw [← Array.getElem?_toList, hlist]
      simp [hj]
    have hbl : b < s.heap.size := (Array.getElem?_eq_some_iff.mp hcb).1
    have hX : va_X b xs.length (fun j => xs.getD j 0) s s.heap := ⟨scr, hcb, hof, hkn, hsz, hval⟩
    have K : W p l e room_1 s m #[Value.ref b] below meth c s₁.heap [] 0 0 (lw_Z below #[Value.ref b] s) (entryFrame m ([Value.ref b] : List Value).toArray 7) := by
      rw [hh0]
      exact whole_start l hl hbd ⟨B.exec, B.bytes, B.returns, hml, hown, hts, hX, hbl, B.notSynchronized, hgv⟩
    obtain ⟨t, a1, o, b1, b2, b3⟩ := K s₁ rfl X₀
    exact ⟨t, o, a1, b1, b2, b3⟩
theorem lw_pre_spec {args : Array Value} {s : State} (h : (Jvm.Cond.and given_1 narrow_1).before args s = true) (hr : rest_1_c.before args s = true) : ∃ (b : Addr) (xs : List Int32), lw_P b xs args s := by
  have hs := flat_of_before _ h
  have hq := flat_of_before _ hr
  have hc : (Cond.count 1).before args s = true := hs _ (by decide +kernel)
  have harr : (Cond.arrayOf (.arg 0) .int).before args s = true := hs _ (by decide +kernel)
  have hle : (Cond.le (.length (.arg 0)) (.int 3072)).before args s = true := hs _ (by decide +kernel)
  have hlen : (Cond.isInt (.length (.arg 0))).before args s = true := hq _ (by decide +kernel)
  have hall : (Cond.all (.arg 0) (.isInt (.elem (.arg 0) (.index 0)))).before args s = true := hq _ (by decide +kernel)
  obtain ⟨b, xs, hb, hx⟩ := State.ints_of_pre rfl harr hlen hall
  have hsm : xs.length < 2 ^ 31 := hx.choose_spec.2.2.2
  have hev : (Term.length (.arg 0)).eval args s none [] s = some (.int xs.length.toInt32) := hx.length_eval hb
  have hv := Cond.le_ints hev (show (Term.int 3072).eval args s none [] s = some (.int 3072) from rfl)
  have hd : xs.length.toInt32 ≤ 3072 := by
    simpa [Cond.before, Cond.holds, hv] using hle
  have hN : xs.length ≤ 3072 := (Int32.ofNat_le_ofNat hsm (by decide)).mp (show Int32.ofNat xs.length ≤ Int32.ofNat 3072 from hd)
  exact ⟨b, xs, Cond.one_arg hc (show args[0]? = some (.ref b) from hb), hx, hN, h⟩
theorem lw_comes (l : Launch) (hl : l.stackTraces = false) : Comes l x (Jvm.Cond.code x code maxLocals ret :: tables_1) room_1 (fun tb e args s => Calls_1 tb e args s ∧ rest_1 tb e args s ∧ Pre_1 tb e args s)
    (fun _ _ args s o t => lw_Q args s o t) := by
  intro p e ha hc hk s m args below hf hfit hheap happ hpre
  obtain ⟨b, xs, hP⟩ := lw_pre_spec hpre.2.2 hpre.2.1
  obtain ⟨k, o, h1, h2, h3, hQ⟩ := lw_walk l hl b xs p e ha hc hk s m args below hf ((Spec.applies_iff_loose hf).mp happ).1 hP trivial
  exact ⟨k, o, h1, h2, h3, hQ⟩
theorem lw_frame {s t : State} {o : Outcome} {args : Array Value} (h : Framed s o t [] 601024 7293034) :
    Framed s o t (fieldLocs frame_1_writes args s ++ arrayLocs frame_1_arrays args s ++ staticLocs frame_1_statics s) 601024 7293034 := h
theorem lw_limb (L : Cond) (hL : ∀ (args : Array Value) (s t : State), L.after args s (.returned (some (.int 1))) t = true) :
    ArmFor flags0 classFile x code maxLocals ret World_1 tables_1 room_1 Calls_1 rest_1 Pre_1
      (fun tb e a s o t => postC L tb e a s o t ∧ Framed s o t (fieldLocs frame_1_writes a s ++ arrayLocs frame_1_arrays a s ++ staticLocs frame_1_statics s) 601024 7293034) := by
  intro l hfg _ _ p e ha hc hk s m args below hf hfit hheap happ hpre
  have hl : l.stackTraces = false := by unfold Launch.stackTraces; rw [hfg]; decide +kernel
  obtain ⟨k, o, h1, h2, h3, rfl, hF⟩ := lw_comes l hl p e ha hc hk s m args below hf hfit hheap happ hpre
  exact ⟨k, _, h1, h2, h3, hL args s _, lw_frame hF⟩
theorem i_vc : Claimed_1_1 ∧ Claimed_1_2 := ⟨lw_limb limb_1_1 (fun args s t => by simp [limb_1_1, Cond.after, Cond.holds, Cond.value]), lw_limb limb_1_2 (fun args s t => Cond.after_iff.mpr (by
  first | (rw [show limb_1_2 = Cond.eq .result (.int 1) from rfl, Cond.eq_ints (x := 1) (y := 1) rfl rfl]; simp; done) | (simp [limb_1_2, Cond.value, Term.eval]; done)))⟩
