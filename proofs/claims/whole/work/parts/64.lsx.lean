/-! the class's lists by number: add, drop, clear, with what they cost -/
section LSX
variable {l : Launch} {Y : YT}
/-- what an add costs -/
def acN (n cap : Nat) : Nat := if n < cap then 0 else grC cap
theorem acN_1 {n cap : Nat} (h : ¬ n < cap) : acN n cap = grC cap := if_neg h
set_option maxHeartbeats 1000000 in
theorem c_add3x (d : Nat) (G : GH) (la ea n cap b ci : Nat) (mo : Int32) (fs : List AV) (f : Nat → Option Nat) (hl : G la = some (alC mo ea n)) (he : alE Y G ea cap f) (hnc : n ≤ cap) (hc : cap ≤ 1000) (hel : ∀ j, j < cap → ∀ y, f j = some y → ∃ ci fs, G y = some (.inr (ci, fs)) ∧ ci ∈ [6, 7]) (hb : G b = some (.inr (ci, fs))) (hci : ci ∈ [6, 7]) : Cd l yJx4a65c_add_72be8 cJx4a65c_add_72be8 4 none (d + 5) (acN n cap) (acN n cap) Y [.inr (.inr (some la)), .inr (.inr (some b)), .inr (.inr (some ea)), .inl (nI n)] G (fun r G' => r = none ∧ addP G G' la ea n cap b mo f) := by
  refine Ct.of (ini := False) (by decide +kernel) False.elim rfl (Nat.le_of_ble_eq_true rfl) ?_
  intro p e s m args below meth c C X
  have hg := grC_le hc
  have hlen : (∃ t x, t < 7 ∧ G ea = some (.inl (t, cap, x))) ∨ (ea = Y.2.2 0 ∧ cap = 0) := by
    rcases he with ⟨h0, h1⟩ | ⟨h0, -⟩
    · exact Or.inr ⟨h1, h0⟩
    · exact Or.inl ⟨6, _, by decide, h0⟩
  refine b_Jx4a65c_add_72be8_0.go C ⟨cap, hlen, fun h1 => ⟨trivial, ?_⟩, fun h1 => ⟨trivial, ?_⟩⟩
  · have hlt : n < cap := by
      rcases Nat.lt_or_ge n cap with h | h
      · exact h
      · exact absurd (by rw [show n = cap by omega]) h1
    rcases he with ⟨h0, -⟩ | ⟨he, -⟩
    · omega
    have hea : la ≠ ea := fun z => by rw [z, he] at hl; cases hl
    refine b_Jx4a65c_add_72be8_11.go C ⟨fun y hy => by cases hy; exact ⟨ci, fs, hb, hci⟩, cap, f, he, n, rfl, hlt, by omega, _, nI_1 n, _, (up_ne hea).trans hl, trivial, ?_⟩
    exact V_vret C X d_Jx4a65c_add_72be8_22 (Nat.zero_le _) (Nat.zero_le _) ⟨rfl, Or.inl ⟨hlt, rfl⟩⟩
  · obtain rfl : n = cap := (nI_eq (by omega) (by omega)).mp h1
    have hac : acN n n = grC n := acN_1 (Nat.lt_irrefl n)
    have hgl := grC_lt n
    refine b_Jx4a65c_add_72be8_6.go C ⟨trivial, ?_⟩
    refine k_Jx4a65c_add_72be8_7.go C X (c_grow d G la ea n mo f hl he hc hel) (rest := []) rfl rfl rfl (fun _ => ⟨la, 0, _, rfl, hl, by decide⟩) (lb rfl) (Rq.of (Nat.le_refl _) (by decide) (by show 0 + 1 ≤ acN n n; omega) (by show 0 + grC n ≤ acN n n; omega)) ?_
    rintro r G' ⟨q, hq, rfl, rfl⟩
    have hqb := ne_none hb hq
    have hql := ne_none hl hq
    have hlb : b ≠ la := fun z => by rw [z, hl] at hb; cases hb; simp at hci
    refine b_Jx4a65c_add_72be8_10.go C ⟨trivial, ?_⟩
    refine b_Jx4a65c_add_72be8_11.go C ⟨fun y hy => by cases hy; exact ⟨ci, fs, (up_ne hlb).trans ((up_ne hqb).trans hb), hci⟩, grC n, trc f n none, (up_ne (Ne.symm hql)).trans up_eq, n, rfl, grC_lt n, by omega, _, nI_1 n, _, (up_ne hql).trans up_eq, trivial, ?_⟩
    refine V_vret C X d_Jx4a65c_add_72be8_22 (by show 0 + 1 ≤ acN n n; omega) (by show 0 + grC n ≤ acN n n; omega) ⟨rfl, Or.inr ⟨rfl, q, hq, ?_⟩⟩
    rw [up_comm hql, bx_uu, bx_uu]; rfl
theorem c_addx (d : Nat) (G : GH) (la ea n cap b ci : Nat) (mo : Int32) (fs : List AV) (f : Nat → Option Nat) (hl : G la = some (alC mo ea n)) (he : alE Y G ea cap f) (hnc : n ≤ cap) (hc : cap ≤ 1000) (hel : ∀ j, j < cap → ∀ y, f j = some y → ∃ ci fs, G y = some (.inr (ci, fs)) ∧ ci ∈ [6, 7]) (hb : G b = some (.inr (ci, fs))) (hci : ci ∈ [6, 7]) : Cd l yJx4a65c_add_9ea2d cJx4a65c_add_9ea2d 2 (some .boolean) (d + 6) (acN n cap) (acN n cap) Y [.inr (.inr (some la)), .inr (.inr (some b))] G (fun r G' => r = some (.inl (nI 1)) ∧ addP G G' la ea n cap b (mo + nI 1) f) := by
  refine Ct.of (ini := False) (by decide +kernel) False.elim rfl (Nat.le_of_ble_eq_true rfl) ?_
  intro p e s m args below meth c C X
  have hlb : ∀ (y ci : Nat) (fs : List AV), G y = some (.inr (ci, fs)) → ci ∈ [6, 7] → y ≠ la := fun y ci fs h1 h2 z => by rw [z, hl] at h1; cases h1; simp at h2
  have he' : alE Y (va_up G la (some (alC (mo + nI 1) ea n))) ea cap f := by
    rcases he with h | ⟨h, h2⟩
    · exact Or.inl h
    · exact Or.inr ⟨(up_ne (fun z => by rw [z, hl] at h; cases h)).trans h, h2⟩
  refine b_Jx4a65c_add_9ea2d_0.go C ⟨_, hl, _, rfl, _, hl, _, up_eq, _, up_eq, trivial, ?_⟩
  refine k_Jx4a65c_add_9ea2d_20.go C X (c_add3x d (va_up G la (some (alC (mo + nI 1) ea n))) la ea n cap b ci (mo + nI 1) fs f up_eq he' hnc hc (fun j hj y hy => by obtain ⟨c9, f9, g1, g2⟩ := hel j hj y hy; exact ⟨c9, f9, (up_ne (hlb y c9 f9 g1 g2)).trans g1, g2⟩) ((up_ne (hlb b ci fs hb hci)).trans hb) hci) (rest := []) rfl rfl rfl (fun _ => ⟨la, 0, _, rfl, up_eq, by decide⟩) (lb rfl) (Rq.of (Nat.le_refl _) (by decide) (by show 0 + _ ≤ acN n cap; omega) (by show 0 + _ ≤ acN n cap; omega)) ?_
  rintro r G' ⟨rfl, hP⟩
  refine b_Jx4a65c_add_9ea2d_23.go C ⟨trivial, ?_⟩
  refine V_zret C X d_Jx4a65c_add_9ea2d_24 z1 (by show 0 + _ ≤ acN n cap; omega) (by show 0 + _ ≤ acN n cap; omega) ⟨rfl, ?_⟩
  rcases hP with ⟨h1, rfl⟩ | ⟨h1, q, hq, rfl⟩
  · refine Or.inl ⟨h1, ?_⟩
    have hea : la ≠ ea := by
      rcases he with ⟨h0, -⟩ | ⟨h0, -⟩
      · omega
      · exact fun z => by rw [z, h0] at hl; cases hl
    rw [up_comm hea, bx_uu]
  · have hlq : la ≠ q := fun z => by rw [← z, up_eq] at hq; cases hq
    refine Or.inr ⟨h1, q, (up_ne (Ne.symm hlq)).symm.trans hq, ?_⟩
    rw [up_comm hlq, bx_uu]
theorem Ct.mono {y : MethodName} {cc : ByteArray} {maxL : Nat} {ret : Option FieldType} {rm : Room} {av : List AV} {G : GH} {post post' : Option AV → GH → Prop} (h : Ct l y cc maxL ret rm Y av G post) (hp : ∀ r G', post r G' → post' r G') : Ct l y cc maxL ret rm Y av G post' := by
  intro sz p e h1 h2 h3 s m args below hf hS hP hK
  obtain ⟨n, o, a, b, c, ⟨⟨r, G', q1, q2, q3⟩, q4⟩⟩ := h sz p e h1 h2 h3 s m args below hf hS hP hK
  exact ⟨n, o, a, b, c, ⟨⟨r, G', q1, hp r G' q2, q3⟩, q4⟩⟩
/-- list a, by its ints -/
def lsL (K : MS) (a : Nat) : List Nat := (List.range (nN K 64 a)).map (fun j => nN K (4000 + a) j)
def cpK (K : MS) (a : Nat) : Nat := if K 65 a = 0 then 0 else nN K 67 a
def LOk (K : MS) (n a : Nat) : Prop := lsOk K n a (lsL K a) (cpK K a)
theorem lsOk.L {K : MS} {n a : Nat} {l : List Nat} {cap : Nat} (h : lsOk K n a l cap) (hn : n ≤ 201) : lsL K a = l := by
  have e1 : nN K 64 a = l.length := nN_of h.1 (by have := h.2.1; have := h.2.2.1; omega)
  unfold lsL
  rw [e1]
  refine List.ext_getElem (by simp) (fun j h1 h2 => ?_)
  have hb := h.2.2.2.2.1 l[j] (List.getElem_mem h2)
  have : nN K (4000 + a) j = l[j] := by rw [nN, h.2.2.2.2.2 j, elN, List.getElem?_eq_getElem h2]; exact nI_clamp (by show l[j] < 2 ^ 31; omega)
  simp [this]
theorem lsOk.C {K : MS} {n a : Nat} {l : List Nat} {cap : Nat} (h : lsOk K n a l cap) : cpK K a = cap := by
  unfold cpK
  rcases h.2.2.2.1 with ⟨h1, h2⟩ | ⟨h1, h2, h3⟩
  · rw [if_pos h2, h1]
  · rw [if_neg h2]; exact nN_of h3 (by have := h.2.2.1; omega)
theorem lsOk.O {K : MS} {n a : Nat} {l : List Nat} {cap : Nat} (h : lsOk K n a l cap) (hn : n ≤ 201) : LOk K n a := by rw [LOk, h.L hn, h.C]; exact h
/-- an address that the class keeps -/
def AK (A A' : AS) : Prop := ∀ k i, k ≠ 6 → k ≠ 7 → k ≠ 10 → k ≠ 18 → A' k i = A k i
theorem AK.rf (A : AS) : AK A A := fun _ _ _ _ _ _ => rfl
theorem AK.tr {A B C : AS} (h : AK A B) (h' : AK B C) : AK A C := fun k i a b c d => (h' k i a b c d).trans (h k i a b c d)
theorem AK.kt {A A' : AS} (h : AK A A') : A' 0 0 = A 0 0 := h 0 0 (by decide) (by decide) (by decide) (by decide)
theorem AK.sg {A A' : AS} (h : AK A A') (i : Nat) : A' 1 i = A 1 i := h 1 i (by decide) (by decide) (by decide) (by decide)
theorem AK.inp {A A' : AS} (h : AK A A') (i : Nat) : A' 2 i = A 2 i := h 2 i (by decide) (by decide) (by decide) (by decide)
theorem AK.ck {A A' : AS} (h : AK A A') (i : Nat) : A' 8 i = A 8 i := h 8 i (by decide) (by decide) (by decide) (by decide)
theorem AK.ls {A A' : AS} (h : AK A A') (i : Nat) : A' 9 i = A 9 i := h 9 i (by decide) (by decide) (by decide) (by decide)
theorem AK.jr {A A' : AS} (h : AK A A') : A' 17 0 = A 17 0 := h 17 0 (by decide) (by decide) (by decide) (by decide)
theorem AK.ag {A A' : AS} (h : AK A A') : A' 15 0 = A 15 0 := h 15 0 (by decide) (by decide) (by decide) (by decide)
theorem LsA.ak {A A' : AS} {a : Nat} (h : LsA A A' a) : AK A A' := fun k i _ _ h3 _ => h k i (fun e => h3 e.1)
theorem AX.ak {A A' : AS} {F : Nat} (h : AX A A' F) : AK A A' := fun k i h1 h2 _ _ => h k i (fun e => e.1.elim h1 h2)
def addK (K : MS) (a i : Nat) : MS := lsU K a (elN (lsL K a ++ [i])) (K 63 a + nI 1) (nI ((lsL K a).length + 1)) (if (lsL K a).length < cpK K a then K 65 a else nI 1) (nI (if (lsL K a).length < cpK K a then cpK K a else grC (cpK K a)))
def acK (K : MS) (a : Nat) : Nat := acN (lsL K a).length (cpK K a)
def drpK (K : MS) (a i : Nat) : MS := if i ∈ lsL K a then lsU K a (elN ((lsL K a).erase i)) (K 63 a + nI 1) (nI ((lsL K a).length - 1)) (K 65 a) (nI (cpK K a)) else K
def clrK (K : MS) (a : Nat) : MS := if cpK K a = 0 then up2 K 63 a (K 63 a + nI 1) else lsU K a (elN []) (K 63 a + nI 1) (nI 0) (K 65 a) (nI (cpK K a))
section LSK
variable {G : GH} {A : AS} {n F : Nat} {K : MS} {L : KL}
theorem KR.addL (h : KR Y G A n F K L) {a : Nat} {i : Nat} (ha : a ≤ 13) (hl : LOk K n a) (hlen : (lsL K a).length ≤ 300) (hi : 1 ≤ i ∧ i ≤ n) {G' : GH} (hP : addP G G' (A 9 a) (eaK Y A K a) (lsL K a).length (cpK K a) (A 1 i) (K 63 a + nI 1) (fun j => dec A 1 (K (4000 + a) j))) : ∃ A', KR Y G' A' n F (addK K a i) L ∧ AK A A' := by
  have hn := h.2.2.1
  have hall : ∀ u ∈ lsL K a ++ [i], 1 ≤ u ∧ u ≤ n := by
    intro u hu
    rcases List.mem_append.mp hu with q | q
    · exact hl.2.2.2.2.1 u q
    · rw [List.mem_singleton.mp q]; exact hi
  have hgb : ∀ j, (elN (lsL K a ++ [i]) j).toNatClampNeg ≤ n := fun j => by
    have := el_le hall hn j
    rw [elN, nI_clamp (by omega)]; exact this
  have hrow : ∀ j, dec A 1 (elN (lsL K a ++ [i]) j) = va_up (fun j => dec A 1 (K (4000 + a) j)) (lsL K a).length (some (A 1 i)) j := by
    intro j
    rw [el_app]
    by_cases q : j = (lsL K a).length
    · rw [if_pos q, q, up_eq]; exact dec_n rfl hi.1 (by omega)
    · rw [if_neg q, up_ne q, hl.2.2.2.2.2 j]
  have hcp := hl.2.2.1
  rcases hP with ⟨hlt, rfl⟩ | ⟨hec, q, hq, rfl⟩
  · rcases hl.2.2.2.1 with ⟨h1, h2⟩ | ⟨h1, h2, h3⟩
    · omega
    have hR := h.lsGen ha (A 10 a) (cpK K a) (elN (lsL K a ++ [i])) (K 63 a + nI 1) (nI ((lsL K a).length + 1)) (K 65 a) h2 (by omega) hgb (Or.inl ⟨rfl, h2⟩)
    rw [up_id rfl, oar_cg hrow] at hR
    refine ⟨A, ?_, AK.rf A⟩
    unfold addK
    rw [if_pos hlt, if_pos hlt, eaK, if_neg h2]
    exact hR
  · have hnl : ¬ (lsL K a).length < cpK K a := by omega
    have hrow2 : ∀ j, dec A 1 (elN (lsL K a ++ [i]) j) = va_up (trc (fun j => dec A 1 (K (4000 + a) j)) (cpK K a) none) (lsL K a).length (some (A 1 i)) j := by
      intro j
      rw [hrow j]
      by_cases q : j = (lsL K a).length
      · rw [q, up_eq, up_eq]
      · rw [up_ne q, up_ne q]
        unfold trc
        split
        · rfl
        · rw [hl.2.2.2.2.2 j]
          exact dec_0 (by rw [elN, List.getElem?_eq_none (by omega)]; exact nI_0)
    have hR := h.lsGen ha q (grC (cpK K a)) (elN (lsL K a ++ [i])) (K 63 a + nI 1) (nI ((lsL K a).length + 1)) (nI 1) (by decide +kernel) (by have := grC_le hcp; omega) hgb (Or.inr hq)
    rw [oar_cg hrow2] at hR
    refine ⟨upA A 10 a q, ?_, LsA.ak (a := a) (fun k i h9 => upA_n h9)⟩
    unfold addK
    rw [if_neg hnl, if_neg hnl]
    exact hR
theorem add_ok {a9 : Nat} (hl : LOk K n a9) (hn : n ≤ 201) (hlen : (lsL K a9).length ≤ 300) {i : Nat} (hi : 1 ≤ i ∧ i ≤ n) : lsOk (addK K a9 i) n a9 (lsL K a9 ++ [i]) (if (lsL K a9).length < cpK K a9 then cpK K a9 else grC (cpK K a9)) := by
  have hcp := hl.2.2.1
  have hll := hl.2.1
  have hle1 : (lsL K a9 ++ [i]).length = (lsL K a9).length + 1 := by simp
  have hgr := grC_lt (cpK K a9)
  unfold addK
  refine ⟨by rw [lsU_64, hle1], by rw [hle1]; split <;> omega, ?_, Or.inr ⟨by split <;> omega, ?_, by rw [lsU_67]⟩, ?_, fun j => lsU_r⟩
  · split
    · exact hcp
    · unfold grC; split <;> omega
  · rw [lsU_65]
    split
    · rcases hl.2.2.2.1 with ⟨h1, h2⟩ | ⟨h1, h2, h3⟩
      · omega
      · exact h2
    · decide +kernel
  · intro u hu
    rcases List.mem_append.mp hu with q | q
    · exact hl.2.2.2.2.1 u q
    · rw [List.mem_singleton.mp q]; exact hi
theorem add_L {a i : Nat} (hl : LOk K n a) (hn : n ≤ 201) (hlen : (lsL K a).length ≤ 300) (hi : 1 ≤ i ∧ i ≤ n) : lsL (addK K a i) a = lsL K a ++ [i] := (add_ok hl hn hlen hi).L hn
theorem add_C {a i : Nat} (hl : LOk K n a) (hn : n ≤ 201) (hlen : (lsL K a).length ≤ 300) (hi : 1 ≤ i ∧ i ≤ n) : cpK (addK K a i) a = if (lsL K a).length < cpK K a then cpK K a else grC (cpK K a) := (add_ok hl hn hlen hi).C
theorem add_o {a i f j : Nat} (h1 : f ≠ 4000 + a) (h2 : ¬ ((f = 63 ∨ f = 64 ∨ f = 65 ∨ f = 67) ∧ j = a)) : addK K a i f j = K f j := lsU_o h1 h2
theorem ls_cg {K K' : MS} {a : Nat} (h64 : K' 64 a = K 64 a) (hr : K' (4000 + a) = K (4000 + a)) : lsL K' a = lsL K a := by unfold lsL nN; rw [h64, hr]
theorem cp_cg {K K' : MS} {a : Nat} (h65 : K' 65 a = K 65 a) (h67 : K' 67 a = K 67 a) : cpK K' a = cpK K a := by unfold cpK nN; rw [h65, h67]
theorem LO_cg {K K' : MS} {n a : Nat} (h64 : K' 64 a = K 64 a) (hr : K' (4000 + a) = K (4000 + a)) (h65 : K' 65 a = K 65 a) (h67 : K' 67 a = K 67 a) (h : LOk K n a) : LOk K' n a := by
  rw [LOk, ls_cg h64 hr, cp_cg h65 h67]
  exact ⟨h64.trans h.1, h.2.1, h.2.2.1, h.2.2.2.1.imp (fun q => ⟨q.1, h65.trans q.2⟩) (fun q => ⟨q.1, by rw [h65]; exact q.2.1, h67.trans q.2.2⟩), h.2.2.2.2.1, fun j => by rw [hr]; exact h.2.2.2.2.2 j⟩
theorem er_idx : ∀ (l : List Nat) (j i : Nat), l.Nodup → l[j]? = some i → l.erase i = l.eraseIdx j
  | [], _, _, _, h => by simp at h
  | x :: t, 0, i, _, h => by simp at h; subst h; simp
  | x :: t, j + 1, i, hd, h => by
    have hd := List.nodup_cons.mp hd
    have hm : i ∈ t := List.mem_of_getElem? (by simpa using h)
    have hx : x ≠ i := fun e => hd.1 (e ▸ hm)
    rw [List.erase_cons_tail (by simpa using hx), List.eraseIdx_cons_succ, er_idx t j i hd.2 (by simpa using h)]
theorem KR.drpL (h : KR Y G A n F K L) {a i j : Nat} (ha : a ≤ 13) (hl : LOk K n a) (hd : (lsL K a).Nodup) (hj : j < (lsL K a).length) (hji : (lsL K a)[j]? = some i) : KR Y (va_up (va_up G (A 10 a) (some (oar 6 (cpK K a) (rmv (fun j => dec A 1 (K (4000 + a) j)) j (lsL K a).length)))) (A 9 a) (some (alC (K 63 a + nI 1) (A 10 a) ((lsL K a).length - 1)))) A n F (drpK K a i) L := by
  have hn := h.2.2.1
  have hcp := hl.2.2.1
  have hall : ∀ u ∈ (lsL K a).eraseIdx j, 1 ≤ u ∧ u ≤ n := fun u hu => hl.2.2.2.2.1 u (List.mem_of_mem_eraseIdx hu)
  have hgb : ∀ x, (elN ((lsL K a).eraseIdx j) x).toNatClampNeg ≤ n := fun x => by
    have := el_le hall hn x
    rw [elN, nI_clamp (by omega)]; exact this
  rcases hl.2.2.2.1 with ⟨h1, h2⟩ | ⟨h1, h2, h3⟩
  · have := hl.2.1; omega
  have hrow : ∀ x, dec A 1 (elN ((lsL K a).eraseIdx j) x) = rmv (fun j => dec A 1 (K (4000 + a) j)) j (lsL K a).length x := by
    intro x
    show _ = if x < j then dec A 1 (K (4000 + a) x) else if x + 1 < (lsL K a).length then dec A 1 (K (4000 + a) (x + 1)) else if x + 1 = (lsL K a).length then none else dec A 1 (K (4000 + a) x)
    rw [el_rmv hj, hl.2.2.2.2.2 x, hl.2.2.2.2.2 (x + 1)]
    split
    · rfl
    · split
      · rfl
      · split
        · exact dec_0 rfl
        · rfl
  have hR := h.lsGen ha (A 10 a) (cpK K a) (elN ((lsL K a).eraseIdx j)) (K 63 a + nI 1) (nI ((lsL K a).length - 1)) (K 65 a) h2 (by omega) hgb (Or.inl ⟨rfl, h2⟩)
  rw [up_id rfl, oar_cg hrow] at hR
  unfold drpK
  rw [if_pos (List.mem_of_getElem? hji), er_idx _ j i hd hji]
  exact hR
theorem drp_ok {a i : Nat} (hl : LOk K n a) : lsOk (drpK K a i) n a ((lsL K a).erase i) (cpK K a) := by
  unfold drpK
  by_cases hm : i ∈ lsL K a
  · rw [if_pos hm]
    have hle : ((lsL K a).erase i).length = (lsL K a).length - 1 := List.length_erase_of_mem hm
    have hpos : 0 < (lsL K a).length := List.length_pos_of_mem hm
    rcases hl.2.2.2.1 with ⟨h1, h2⟩ | ⟨h1, h2, h3⟩
    · have := hl.2.1; omega
    exact ⟨by rw [lsU_64, hle], by rw [hle]; have := hl.2.1; omega, hl.2.2.1, Or.inr ⟨h1, by rw [lsU_65]; exact h2, by rw [lsU_67]⟩, fun u hu => hl.2.2.2.2.1 u (List.mem_of_mem_erase hu), fun j => lsU_r⟩
  · rw [if_neg hm, List.erase_of_not_mem hm]
    exact hl
theorem drp_L {a i : Nat} (hl : LOk K n a) (hn : n ≤ 201) : lsL (drpK K a i) a = (lsL K a).erase i := (drp_ok hl).L hn
theorem drp_C {a i : Nat} (hl : LOk K n a) : cpK (drpK K a i) a = cpK K a := (drp_ok hl).C
theorem drp_o {a i f j : Nat} (h1 : f ≠ 4000 + a) (h2 : ¬ ((f = 63 ∨ f = 64 ∨ f = 65 ∨ f = 67) ∧ j = a)) : drpK K a i f j = K f j := by
  unfold drpK; split
  · exact lsU_o h1 h2
  · rfl
theorem KR.clrL (h : KR Y G A n F K L) {a : Nat} (ha : a ≤ 13) (hl : LOk K n a) {G' : GH} (hP : (cpK K a = 0 ∧ G' = va_up G (A 9 a) (some (alC (K 63 a + nI 1) (eaK Y A K a) 0))) ∨ (0 < cpK K a ∧ G' = va_up (va_up G (eaK Y A K a) (some (oar 6 (cpK K a) (clr (fun j => dec A 1 (K (4000 + a) j)) (lsL K a).length)))) (A 9 a) (some (alC (K 63 a + nI 1) (eaK Y A K a) 0)))) : KR Y G' A n F (clrK K a) L := by
  have hn := h.2.2.1
  have hcp := hl.2.2.1
  unfold clrK
  rcases hP with ⟨h0, rfl⟩ | ⟨hpos, rfl⟩
  · have hl0 : (lsL K a).length = 0 := by have := hl.2.1; omega
    rw [if_pos h0]
    have hR := h.put1 (k := 9) (i := a) (f := 63) (j := a) ha (K 63 a + nI 1) rfl (by decide) (by decide) (fun q => by cases q) (fun q => by cases q)
    have e : cel Y A (up2 K 63 a (K 63 a + nI 1)) L 9 a = alC (K 63 a + nI 1) (eaK Y A K a) 0 := by
      show (Sum.inr (0, [.inl (up2 K 63 a (K 63 a + nI 1) 63 a), .inr (.inr (some (if up2 K 63 a (K 63 a + nI 1) 65 a = 0 then Y.2.2 0 else A 10 a))), .inl (up2 K 63 a (K 63 a + nI 1) 64 a)]) : AC) = _
      rw [up2_s, up2_f (by decide), up2_f (by decide), hl.1, hl0]; rfl
    rw [e] at hR
    exact hR
  · rw [if_neg (by omega)]
    rcases hl.2.2.2.1 with ⟨h1, h2⟩ | ⟨h1, h2, h3⟩
    · omega
    have hrow : ∀ j, dec A 1 (elN [] j) = clr (fun j => dec A 1 (K (4000 + a) j)) (lsL K a).length j := by
      intro j
      show _ = if j < (lsL K a).length then none else dec A 1 (K (4000 + a) j)
      rw [el_nil, dec_0 rfl]
      split
      · rfl
      · rw [hl.2.2.2.2.2 j]
        exact (dec_0 (by rw [elN, List.getElem?_eq_none (by omega)]; exact nI_0)).symm
    have hR := h.lsGen ha (A 10 a) (cpK K a) (elN []) (K 63 a + nI 1) (nI 0) (K 65 a) h2 (by omega) (fun j => by rw [el_nil]; exact Nat.zero_le _) (Or.inl ⟨rfl, h2⟩)
    rw [up_id rfl, oar_cg hrow] at hR
    rw [eaK, if_neg h2]
    exact hR
theorem clr_ok {a : Nat} (hl : LOk K n a) : lsOk (clrK K a) n a [] (cpK K a) := by
  unfold clrK
  by_cases h0 : cpK K a = 0
  · rw [if_pos h0]
    have hl0 : (lsL K a).length = 0 := by have := hl.2.1; omega
    have hnil : lsL K a = [] := List.eq_nil_of_length_eq_zero hl0
    refine ⟨by rw [up2_f (by decide), hl.1, hnil], Nat.zero_le _, hl.2.2.1, Or.inl ⟨h0, by rw [up2_f (by decide)]; exact (hl.2.2.2.1.resolve_right (fun q => by omega)).2⟩, (fun u hu => by cases hu), fun j => ?_⟩
    rw [up2_f (by omega), hl.2.2.2.2.2 j, hnil]
  · rw [if_neg h0]
    rcases hl.2.2.2.1 with ⟨h1, h2⟩ | ⟨h1, h2, h3⟩
    · omega
    exact ⟨by rw [lsU_64]; rfl, Nat.zero_le _, hl.2.2.1, Or.inr ⟨h1, by rw [lsU_65]; exact h2, by rw [lsU_67]⟩, (fun u hu => by cases hu), fun j => lsU_r⟩
theorem clr_o {a f j : Nat} (h1 : f ≠ 4000 + a) (h2 : ¬ ((f = 63 ∨ f = 64 ∨ f = 65 ∨ f = 67) ∧ j = a)) : clrK K a f j = K f j := by
  unfold clrK; split
  · exact up2_n (fun e => h2 ⟨Or.inl e.1, e.2⟩)
  · exact lsU_o h1 h2
end LSK
theorem k_add (d : Nat) (G : GH) (A : AS) (n F : Nat) (K : MS) (L : KL) (a i : Nat) (hR : KR Y G A n F K L) (ha : a ≤ 13) (hl : LOk K n a) (hlen : (lsL K a).length ≤ 300) (hi : 1 ≤ i ∧ i ≤ n) : Cd l yJx4a65c_add_9ea2d cJx4a65c_add_9ea2d 2 (some .boolean) (d + 6) (acK K a) (acK K a) Y [.inr (.inr (some (A 9 a))), .inr (.inr (some (A 1 i)))] G (fun r G' => r = some (.inl (nI 1)) ∧ ∃ A', KR Y G' A' n F (addK K a i) L ∧ AK A A') := by
  have h := c_addx (l := l) d G (A 9 a) (eaK Y A K a) (lsL K a).length (cpK K a) (A 1 i) _ (K 63 a) _ (fun j => dec A 1 (K (4000 + a) j)) (hR.ls ha hl) (hR.le ha hl) hl.2.1 hl.2.2.1 (fun j _ y hy => hR.lel hl j y hy) (hR.st hi) (stC_in _)
  exact Ct.mono h (fun r G' ⟨h1, h2⟩ => ⟨h1, hR.addL ha hl hlen hi h2⟩)
set_option maxHeartbeats 1000000 in
theorem k_dropFrom (d : Nat) (G : GH) (A : AS) (n F : Nat) (K : MS) (L : KL) (a i0 : Nat) (hR : KR Y G A n F K L) (ha : a ≤ 13) (hl : LOk K n a) (hd : (lsL K a).Nodup) (hi : 1 ≤ i0 ∧ i0 ≤ n) : Cd l yX8_dropFrom cX8_dropFrom 3 none (d + 3) 0 0 Y [.inr (.inr (some (A 9 a))), .inr (.inr (some (A 1 i0)))] G (fun r G' => r = none ∧ KR Y G' A n F (drpK K a i0) L) := by
  refine Ct.of (ini := False) (by decide +kernel) False.elim rfl (Nat.le_of_ble_eq_true rfl) ?_
  intro p e s m args below meth c C X
  have hn := hR.2.2.1
  have hcp := hl.2.2.1
  have hlc := hl.2.1
  refine b_X8_dropFrom_0.go C ⟨trivial, ?_⟩
  refine k_X8_dropFrom_1.go C X (c_size (d + 2) G (A 9 a) _ _ _ (hR.ls ha hl)) (rest := []) rfl rfl rfl (fun _ => ⟨_, _, _, rfl, hR.1 9 a (show a ≤ 13 by omega), by decide⟩) (lb rfl) (Rq.of (by omega) (by decide) (Nat.le_refl _) (Nat.le_refl _)) ?_
  rintro r G9 ⟨h9, rfl⟩
  replace h9 := h9.symm
  subst h9
  have no : (∀ j, j < (lsL K a).length → ¬ (lsL K a)[j]? = some i0) → drpK K a i0 = K := by
    intro h
    unfold drpK
    rw [if_neg]
    intro hm
    obtain ⟨j, hj⟩ := List.getElem?_of_mem hm
    exact h j (List.getElem?_eq_some_iff.mp hj).1 hj
  have lp : ∀ (q : Nat) (z : Int32), z = nI q - nI 1 → q ≤ (lsL K a).length → (∀ j, q ≤ j → j < (lsL K a).length → ¬ (lsL K a)[j]? = some i0) → V p l e (RM (d + 3) 0 0) s m args below meth c Y (GA G s.heap.size) (QM below args s (RM (d + 3) 0 0) Y G (fun r G' => r = none ∧ KR Y G' A n F (drpK K a i0) L)) 7 G 0 0 [some (.inr (.inr (some (A 9 a)))), some (.inr (.inr (some (A 1 i0)))), some (.inl z)] [] := by
    intro q
    induction q with
    | zero =>
      intro z hz hq hno
      have hz1 : z = -1 := by rw [hz]; decide +kernel
      refine b_X8_dropFrom_7.go C ⟨fun _ => ⟨trivial, ?_⟩, fun h => absurd (by rw [hz1]; decide +kernel) h⟩
      exact V_vret C X d_X8_dropFrom_33 (Nat.zero_le _) (Nat.zero_le _) ⟨rfl, by rw [no (fun j hj => hno j (Nat.zero_le _) hj)]; exact hR⟩
    | succ q ih =>
      intro z hz hq hno
      have hz1 : z = nI q := by rw [hz]; exact pk_sub (by omega)
      subst hz1
      rcases hl.2.2.2.1 with ⟨h1, h2⟩ | ⟨h1, h2, h3⟩
      · omega
      have hea : eaK Y A K a = A 10 a := by rw [eaK, if_neg h2]
      have hle := hR.le ha hl
      have hrow : G (A 10 a) = some (oar 6 (cpK K a) (fun j => dec A 1 (K (4000 + a) j))) := by
        rcases hle with ⟨h4, -⟩ | ⟨h4, -⟩
        · omega
        · rw [hea] at h4; exact h4
      have hls := hR.ls ha hl
      rw [hea] at hls
      have hu : 1 ≤ (lsL K a)[q]?.getD 0 ∧ (lsL K a)[q]?.getD 0 ≤ n := ⟨el_lt hl.2.2.2.2.1 (by omega), el_le hl.2.2.2.2.1 hn q⟩
      have hget := hR.lget hl (j := q) (by omega)
      refine b_X8_dropFrom_7.go C ⟨fun h => absurd h (nI_nneg (by omega)), fun _ => ⟨trivial, ?_⟩⟩
      refine b_X8_dropFrom_11.go C ⟨trivial, ?_⟩
      refine k_X8_dropFrom_13.go C X (c_get d G (A 9 a) (A 10 a) _ (cpK K a) q _ _ hls hrow (by omega) hlc (by omega)) (rest := []) rfl rfl rfl (fun _ => ⟨_, _, _, rfl, hR.1 9 a (show a ≤ 13 by omega), by decide⟩) (lb rfl) (Rq.of (by omega) (by decide) (Nat.le_refl _) (Nat.le_refl _)) ?_
      rintro r G9 ⟨h9, rfl⟩
      replace h9 := h9.symm
      subst h9
      refine b_X8_dropFrom_16.go C ⟨fun h16 => ⟨trivial, ?_⟩, fun h16 => ⟨trivial, ?_⟩⟩
      · refine b_X8_dropFrom_27.go C ⟨_, rfl, trivial, ?_⟩
        refine ih _ ?_ (by omega) (fun j h5 h6 => ?_)
        · rw [Int32.sub_eq_add_neg]; rfl
        · by_cases e : j = q
          · subst e
            intro h7
            rw [h7] at hget
            exact h16 hget
          · exact hno j (by omega) h6
      · have h16 : dec A 1 (K (4000 + a) q) = some (A 1 i0) := h16
        rw [hget] at h16
        have e1 : (lsL K a)[q]?.getD 0 = i0 := (hR.2.1 1 _ 1 i0 hu hi (Option.some.inj h16)).2
        have e2 : (lsL K a)[q]? = some i0 := by
          have : q < (lsL K a).length := by omega
          rw [List.getElem?_eq_getElem this] at e1 ⊢
          exact congrArg some e1
        refine b_X8_dropFrom_20.go C ⟨trivial, ?_⟩
        refine k_X8_dropFrom_22.go C X (c_remove d G (A 9 a) (A 10 a) _ (cpK K a) q _ _ hls hrow (by omega) hlc (by omega) (fun j _ y hy => hR.lel hl j y hy)) (rest := []) rfl rfl rfl (fun _ => ⟨_, _, _, rfl, hR.1 9 a (show a ≤ 13 by omega), by decide⟩) (lb rfl) (Rq.of (by omega) (by decide) (Nat.le_refl _) (Nat.le_refl _)) ?_
        rintro r G9 ⟨rfl, rfl⟩
        refine b_X8_dropFrom_25.go C ⟨trivial, ?_⟩
        exact V_vret C X d_X8_dropFrom_26 (Nat.zero_le _) (Nat.zero_le _) ⟨rfl, hR.drpL ha hl hd (by omega) e2⟩
  refine b_X8_dropFrom_4.go C ⟨_, rfl, trivial, ?_⟩
  exact lp (lsL K a).length _ rfl (Nat.le_refl _) (fun j h1 h2 => by omega)
theorem k_clear (d : Nat) (G : GH) (A : AS) (n F : Nat) (K : MS) (L : KL) (a : Nat) (hR : KR Y G A n F K L) (ha : a ≤ 13) (hl : LOk K n a) : Cd l yJx4a65c_clear_da8c8 cJx4a65c_clear_da8c8 4 none d 0 0 Y [.inr (.inr (some (A 9 a)))] G (fun r G' => r = none ∧ KR Y G' A n F (clrK K a) L) := by
  have hcp := hl.2.2.1
  have h := c_clear (l := l) d G (A 9 a) (eaK Y A K a) (lsL K a).length (cpK K a) (K 63 a) (fun j => dec A 1 (K (4000 + a) j)) (hR.ls ha hl) (hR.le ha hl) hl.2.1 (by omega)
  exact Ct.mono h (fun r G' ⟨h1, h2⟩ => ⟨h1, hR.clrL ha hl h2⟩)
end LSX
