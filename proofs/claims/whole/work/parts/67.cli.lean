/-! the class: makeReady, release, noteEnd -/
section CLI
section LAS
variable {Y : YT} {G : GH} {A : AS} {n F : Nat} {K K' : MS} {L : KL}
/-- the lists: each is well, holds nothing twice, is short -/
def LA (K : MS) (n : Nat) : Prop := ∀ a, a ≤ 13 → LOk K n a ∧ (lsL K a).Nodup ∧ (lsL K a).length ≤ 201
/-- the ints of the lists -/
def isLs (f : Nat) : Prop := f = 64 ∨ f = 65 ∨ f = 67 ∨ (4000 ≤ f ∧ f < 10000)
theorem lsL_e {a : Nat} (ha : a ≤ 13) (e : ∀ f j, isLs f → K' f j = K f j) : lsL K' a = lsL K a := ls_cg (e 64 a (Or.inl rfl)) (funext (fun j => e _ j (Or.inr (Or.inr (Or.inr ⟨by omega, by omega⟩)))))
theorem cpK_e {a : Nat} (e : ∀ f j, isLs f → K' f j = K f j) : cpK K' a = cpK K a := cp_cg (e 65 a (Or.inr (Or.inl rfl))) (e 67 a (Or.inr (Or.inr (Or.inl rfl))))
theorem LOk_e {a : Nat} (ha : a ≤ 13) (e : ∀ f j, isLs f → K' f j = K f j) (h : LOk K n a) : LOk K' n a := LO_cg (e 64 a (Or.inl rfl)) (funext (fun j => e _ j (Or.inr (Or.inr (Or.inr ⟨by omega, by omega⟩))))) (e 65 a (Or.inr (Or.inl rfl))) (e 67 a (Or.inr (Or.inr (Or.inl rfl)))) h
theorem LA.cg (h : LA K n) (e : ∀ f j, isLs f → K' f j = K f j) : LA K' n := fun a ha => by
  rw [lsL_e ha e]
  exact ⟨LOk_e ha e (h a ha).1, (h a ha).2⟩
theorem up_ls {f j : Nat} {v : Int32} (hf : ¬ isLs f) : ∀ f' j', isLs f' → up2 K f j v f' j' = K f' j' := fun f' j' h => up2_n (fun e => hf (e.1 ▸ h))
theorem LA.up (h : LA K n) {f j : Nat} (v : Int32) (hf : ¬ isLs f) : LA (up2 K f j v) n := h.cg (up_ls hf)
/-- another list -/
theorem oth_L {a b i : Nat} (hb : b ≤ 13) (ha : a ≤ 13) (hab : b ≠ a) (e : ∀ f j, f ≠ 4000 + a → ¬ ((f = 63 ∨ f = 64 ∨ f = 65 ∨ f = 67) ∧ j = a) → K' f j = K f j) : lsL K' b = lsL K b ∧ cpK K' b = cpK K b ∧ (LOk K n b → LOk K' n b) := by
  have e64 : K' 64 b = K 64 b := e 64 b (by omega) (fun z => hab z.2)
  have e65 : K' 65 b = K 65 b := e 65 b (by omega) (fun z => hab z.2)
  have e67 : K' 67 b = K 67 b := e 67 b (by omega) (fun z => hab z.2)
  have er : K' (4000 + b) = K (4000 + b) := funext (fun j => e _ j (by omega) (by omega))
  exact ⟨ls_cg e64 er, cp_cg e65 e67, LO_cg e64 er e65 e67⟩
theorem LA.drp (h : LA K n) (hn : n ≤ 201) {a i : Nat} (ha : a ≤ 13) : LA (drpK K a i) n := by
  intro b hb
  by_cases e : b = a
  · subst e
    rw [drp_L (h b hb).1 hn]
    refine ⟨(drp_ok (h b hb).1).O hn, (h b hb).2.1.erase i, ?_⟩
    have := List.length_erase_le (a := i) (l := lsL K b)
    have := (h b hb).2.2
    omega
  · obtain ⟨e1, e2, e3⟩ := oth_L (K := K) (K' := drpK K a i) (n := n) (i := i) hb ha e (fun f j h1 h2 => drp_o h1 h2)
    rw [e1]
    exact ⟨e3 (h b hb).1, (h b hb).2⟩
theorem LA.add (h : LA K n) (hn : n ≤ 201) {a i : Nat} (ha : a ≤ 13) (hi : 1 ≤ i ∧ i ≤ n) (hni : i ∉ lsL K a) (hlen : (lsL K a).length ≤ 200) : LA (addK K a i) n := by
  intro b hb
  by_cases e : b = a
  · subst e
    rw [add_L (h b hb).1 hn (by omega) hi]
    refine ⟨(add_ok (h b hb).1 hn (by omega) hi).O hn, ?_, by simp; omega⟩
    refine List.nodup_append.mpr ⟨(h b hb).2.1, by simp, ?_⟩
    intro x hx y hy
    rw [List.mem_singleton.mp hy]
    exact fun z => hni (z ▸ hx)
  · obtain ⟨e1, e2, e3⟩ := oth_L (K := K) (K' := addK K a i) (n := n) (i := i) hb ha e (fun f j h1 h2 => add_o h1 h2)
    rw [e1]
    exact ⟨e3 (h b hb).1, (h b hb).2⟩
theorem LA.clr (h : LA K n) (hn : n ≤ 201) {a : Nat} (ha : a ≤ 13) : LA (clrK K a) n := by
  intro b hb
  by_cases e : b = a
  · subst e
    have := clr_ok (h b hb).1
    rw [this.L hn]
    exact ⟨this.O hn, List.nodup_nil, Nat.zero_le _⟩
  · obtain ⟨e1, e2, e3⟩ := oth_L (K := K) (K' := clrK K a) (n := n) (i := 0) hb ha e (fun f j h1 h2 => clr_o h1 h2)
    rw [e1]
    exact ⟨e3 (h b hb).1, (h b hb).2⟩
theorem wk_e (e : ∀ j, K' 11 j = K 11 j) (i : Nat) : isWK K' i = isWK K i := by unfold isWK; rw [e i]
theorem KR.wkH (h : KR Y G A n F K L) {u b : Nat} (hu : 1 ≤ u ∧ u ≤ n) (hw : isWK K u = true) (hd : dec A 8 (K 31 u) = some b) : G (A 1 u) = some (stC true (sgK K u) (va_up (rhK A K u) 21 (some b))) := by
  rw [h.wk hu hw]
  refine congrArg some (sg_congr (fun _ _ _ _ _ _ _ _ => rfl) (fun j hj => ?_))
  by_cases e : j = 21
  · subst e; rw [up_eq]; exact hd
  · rw [up_ne e]
theorem KR.h0 (h : KR Y G A n F K L) {i : Nat} (hi : 1 ≤ i ∧ i ≤ n) (hw : isWK K i = true) : KR Y (va_up G (A 1 i) (some (stC true (sgK K i) (va_up (rhK A K i) 21 none)))) A n F (up2 K 31 i 0) L := by
  have := h.p21 hi 0
  rw [hw, dec_0 rfl] at this
  exact this
theorem KR.h1 (h : KR Y G A n F K L) {i c : Nat} (hi : 1 ≤ i ∧ i ≤ n) (hw : isWK K i = true) (hc : 1 ≤ c ∧ c ≤ 12) : KR Y (va_up G (A 1 i) (some (stC true (sgK K i) (va_up (rhK A K i) 21 (some (A 8 c)))))) A n F (up2 K 31 i (nI c)) L := by
  have := h.p21 hi (nI c)
  rw [hw, dec_n rfl hc.1 (by omega)] at this
  exact this
end LAS
variable {l : Launch} {Y : YT}
/-- the work i is ready from now on -/
def rdyA (K : MS) (i : Nat) : MS := up2 (up2 K 16 i (nI 1)) 24 i (K 2 0)
def rdyK (K : MS) (i : Nat) : MS := addK (rdyA K i) 0 i
theorem rdyA_ls (K : MS) (i : Nat) : ∀ f j, isLs f → rdyA K i f j = K f j := fun f j h => by
  unfold rdyA
  rw [up_ls (fun q => by unfold isLs at q; omega) f j h, up_ls (fun q => by unfold isLs at q; omega) f j h]
theorem acK_e {K K' : MS} {a : Nat} (ha : a ≤ 13) (e : ∀ f j, isLs f → K' f j = K f j) : acK K' a = acK K a := by unfold acK; rw [lsL_e ha e, cpK_e e]
set_option maxHeartbeats 1000000 in
theorem k_makeReady (d : Nat) (G : GH) (A : AS) (n F : Nat) (K : MS) (L : KL) (i0 : Nat) (hR : KR Y G A n F K L) (hi : 1 ≤ i0 ∧ i0 ≤ n) (hw : isWK K i0 = true) (hl : LOk K n 0) (hlen : (lsL K 0).length ≤ 300) : Cd l yX8_makeReady cX8_makeReady 2 none (d + 7) ((acK K 0)) ((acK K 0)) Y [.inr (.inr (some (A 0 0))), .inr (.inr (some (A 1 i0)))] G (fun r G' => r = none ∧ ∃ A', KR Y G' A' n F (rdyK K i0) L ∧ AK A A') := by
  refine Ct.of (ini := False) (by decide +kernel) False.elim rfl (Nat.le_of_ble_eq_true rfl) ?_
  intro p e s m args below meth c C X
  have eL := rdyA_ls K i0
  have eC : acK (rdyA K i0) 0 = acK K 0 := acK_e (by decide) eL
  have R1_ := hR.pW (i := i0) (by omega) hw 6 (nI 1) rfl
  have R2_ := R1_.pW (i := i0) (by omega) hw 14 (K 2 0) rfl
  refine b_X8_makeReady_0.go C ⟨_, hR.wk (by omega) hw, _, R1_.mn, _, R1_.wk (by omega) hw, _, R2_.mn, trivial, ?_⟩
  refine k_X8_makeReady_18.go C X (k_add d _ A n F (rdyA K i0) L 0 i0 R2_ (by decide) (LOk_e (by decide) eL hl) (by rw [lsL_e (by decide) eL]; exact hlen) hi) (rest := []) rfl rfl rfl (fun _ => ⟨_, _, _, rfl, R2_.1 9 0 (show 0 ≤ 13 by omega), by decide⟩) (lb rfl) (Rq.of (by omega) (by decide) (by show _ + acK (rdyA K i0) 0 ≤ acK K 0; omega) (by show _ + acK (rdyA K i0) 0 ≤ acK K 0; omega)) ?_
  rintro r G9 ⟨rfl, A1, R9, hA⟩
  refine b_X8_makeReady_21.go C ⟨trivial, ?_⟩
  exact V_vret C X d_X8_makeReady_22 (by show _ + acK (rdyA K i0) 0 ≤ acK K 0; omega) (by show _ + acK (rdyA K i0) 0 ≤ acK K 0; omega) ⟨rfl, A1, R9, hA⟩
/-- nobody has the work i any more -/
def relA (K : MS) (i : Nat) : MS := up2 (drpK K 0 i) 29 i (bI (decide (K 16 i = nI 7)))
def relK (K : MS) (i : Nat) : MS := if K 31 i = 0 then drpK K 0 i else up2 (drpK (relA K i) (nN K 31 i) i) 31 i 0
/-- a holder's number -/
def hdOk (K : MS) (i : Nat) : Prop := K 31 i = nI (nN K 31 i) ∧ nN K 31 i ≤ 12
set_option maxHeartbeats 1000000 in
theorem k_release (d : Nat) (G : GH) (A : AS) (n F : Nat) (K : MS) (L : KL) (i0 : Nat) (hR : KR Y G A n F K L) (hi : 1 ≤ i0 ∧ i0 ≤ n) (hw : isWK K i0 = true) (hL : LA K n) (hh : hdOk K i0) : Cd l yX8_release cX8_release 2 none (d + 4) 0 0 Y [.inr (.inr (some (A 0 0))), .inr (.inr (some (A 1 i0)))] G (fun r G' => r = none ∧ KR Y G' A n F (relK K i0) L) := by
  refine Ct.of (ini := False) (by decide +kernel) False.elim rfl (Nat.le_of_ble_eq_true rfl) ?_
  intro p e s m args below meth c C X
  have hn := hR.2.2.1
  have L0 := hL 0 (by decide)
  have e16 : drpK K 0 i0 16 i0 = K 16 i0 := drp_o (by decide) (by omega)
  have e31 : drpK K 0 i0 31 i0 = K 31 i0 := drp_o (by decide) (by omega)
  have w1 : isWK (drpK K 0 i0) i0 = true := by rw [wk_e (fun j => drp_o (by decide) (by omega))]; exact hw
  refine b_X8_release_0.go C ⟨_, hR.mn, trivial, ?_⟩
  refine k_X8_release_5.go C X (k_dropFrom d G A n F K L 0 i0 hR (by decide) L0.1 L0.2.1 hi) (rest := []) rfl rfl rfl (fun h => absurd rfl h) (lb rfl) (Rq.of (by omega) (by decide) (Nat.le_refl _) (Nat.le_refl _)) ?_
  rintro r G9 ⟨rfl, R1⟩
  by_cases h0 : K 31 i0 = 0
  · have hd : dec A 8 (drpK K 0 i0 31 i0) = none := dec_0 (by rw [e31]; exact h0)
    refine b_X8_release_8.go C ⟨_, R1.wk hi w1, fun _ => ⟨trivial, ?_⟩, fun a9 h9 => ?_⟩
    · skip
      exact V_vret C X d_X8_release_49 (Nat.zero_le _) (Nat.zero_le _) ⟨rfl, by rw [relK, if_pos h0]; exact R1⟩
    · have h9 : dec A 8 (drpK K 0 i0 31 i0) = some a9 := h9
      rw [hd] at h9; cases h9
  have hc : 1 ≤ nN K 31 i0 ∧ nN K 31 i0 ≤ 12 := ⟨Nat.pos_of_ne_zero (fun z => h0 (by rw [hh.1, z]; exact nI_0)), hh.2⟩
  have hd : dec A 8 (drpK K 0 i0 31 i0) = some (A 8 (nN K 31 i0)) := by rw [e31]; exact dec_n hh.1 hc.1 (by omega)
  have L1 := (hL.drp hn (a := 0) (i := i0) (by decide)).up (f := 29) (j := i0) (bI (decide (K 16 i0 = nI 7))) (fun q => by unfold isLs at q; omega) (nN K 31 i0) (by omega)
  have R2 := R1.pW hi w1 19 (bI (decide (K 16 i0 = nI 7))) rfl
  have w2 : isWK (relA K i0) i0 = true := w1
  have tl : V p l e (RM (d + 4) 0 0) s m args below meth c Y (GA G s.heap.size) (QM below args s (RM (d + 4) 0 0) Y G (fun r G' => r = none ∧ KR Y G' A n F (relK K i0) L)) 30 G9 0 0 [some (.inr (.inr (some (A 0 0)))), some (.inr (.inr (some (A 1 i0))))] [.inl (bI (decide (K 16 i0 = nI 7))), .inr (.inr (some (A 1 i0)))] := by
    refine b_X8_release_30.go C ⟨bI_z _, _, R1.wk hi w1, _, R2.wkH hi w2 hd, _, R2.ck hc, trivial, ?_⟩
    refine k_X8_release_41.go C X (k_dropFrom d _ A n F (relA K i0) L (nN K 31 i0) i0 R2 (by omega) L1.1 L1.2.1 hi) (rest := []) rfl rfl rfl (fun h => absurd rfl h) (lb rfl) (Rq.of (by omega) (by decide) (Nat.le_refl _) (Nat.le_refl _)) ?_
    rintro r G8 ⟨rfl, R3⟩
    have w3 : isWK (drpK (relA K i0) (nN K 31 i0) i0) i0 = true := by rw [wk_e (fun j => drp_o (by omega) (by omega))]; exact w2
    refine b_X8_release_44.go C ⟨_, R3.wk hi w3, trivial, ?_⟩
    exact V_vret C X d_X8_release_49 (Nat.zero_le _) (Nat.zero_le _) ⟨rfl, by rw [relK, if_neg h0]; exact R3.h0 hi w3⟩
  refine b_X8_release_8.go C ⟨_, R1.wk hi w1, fun h9 => ?_, fun a9 h9 => ⟨trivial, ?_⟩⟩
  · have h9 : dec A 8 (drpK K 0 i0 31 i0) = none := h9
    rw [hd] at h9; cases h9
  refine b_X8_release_15.go C ⟨_, R1.wk hi w1, fun h15 => ⟨trivial, ?_⟩, fun h15 => ⟨trivial, ?_⟩⟩
  · have h15 : ¬ drpK K 0 i0 16 i0 = nI 7 := h15
    rw [e16] at h15
    rw [decide_eq_false h15] at tl
    refine b_X8_release_29.go C ⟨trivial, ?_⟩
    exact tl
  · have h15 : drpK K 0 i0 16 i0 = nI 7 := h15
    rw [e16] at h15
    rw [decide_eq_true h15] at tl
    refine b_X8_release_25.go C ⟨trivial, ?_⟩
    exact tl
/-- an end of stage i is noted -/
def nteA (K : MS) (i : Nat) : MS := up2 (up2 (up2 K 3 0 (K 3 0 + nI 1)) 20 i (K 3 0 + nI 1)) 19 i (K 2 0)
def nteB (K : MS) (i : Nat) : MS := jrnK (nteA K i) (K 2 0) (K 10 i) (K 16 i - nI 3)
/-- the inputs of i (as they are in K0), from j on, serve one less -/
def srvD (K0 : MS) (i : Nat) : Nat → Nat → MS → MS
  | 0, _, K => K
  | q + 1, j, K => srvD K0 i q (j + 1) (up2 K 22 (iK K0 i j) (K 22 (iK K0 i j) - nI 1))
def nteC (K : MS) (i : Nat) : MS := srvD K i (nN K 12 i) 0 (nteB K i)
def nteD (K : MS) (i : Nat) : MS := if isWK K i = true then relK (nteC K i) i else nteC K i
def nteK (K : MS) (i : Nat) : MS := if K 16 i = nI 7 then addK (nteD K i) 13 i else nteD K i
/-- what it costs -/
def ntcK (K : MS) (i : Nat) : Nat := jcK (nteA K i) + (if K 16 i = nI 7 then acK (nteD K i) 13 else 0)
theorem srvD_o (K0 : MS) (i : Nat) : ∀ (q j : Nat) (K : MS) (f : Nat), f ≠ 22 → srvD K0 i q j K f = K f
  | 0, _, _, _, _ => rfl
  | q + 1, j, K, f, h => by rw [srvD, srvD_o K0 i q (j + 1) _ f h, up2_f h]
theorem nteA_o {K : MS} {i f j : Nat} (h3 : f ≠ 3) (h20 : f ≠ 20) (h19 : f ≠ 19) : nteA K i f j = K f j := by unfold nteA; rw [up2_f h19, up2_f h20, up2_f h3]
theorem nteC_o {K : MS} {i f j : Nat} (h3 : f ≠ 3) (h20 : f ≠ 20) (h19 : f ≠ 19) (h80 : f ≠ 80) (h81 : f ≠ 81) (h82 : f ≠ 82) (h22 : f ≠ 22) : nteC K i f j = K f j := by
  unfold nteC nteB
  rw [srvD_o _ _ _ _ _ f h22, jrn_o h82 (fun e => h80 e.1) (fun e => h81 e.1), nteA_o h3 h20 h19]
theorem nteC_ls (K : MS) (i : Nat) : ∀ f j, isLs f → nteC K i f j = K f j := fun f j h => nteC_o (fun e => by subst e; unfold isLs at h; omega) (fun e => by subst e; unfold isLs at h; omega) (fun e => by subst e; unfold isLs at h; omega) (fun e => by subst e; unfold isLs at h; omega) (fun e => by subst e; unfold isLs at h; omega) (fun e => by subst e; unfold isLs at h; omega) (fun e => by subst e; unfold isLs at h; omega)
theorem LA.rel {K : MS} {n i : Nat} (h : LA K n) (hn : n ≤ 201) (hh : nN K 31 i ≤ 12) : LA (relK K i) n := by
  unfold relK
  split
  · exact h.drp hn (by decide)
  · exact (((h.drp hn (a := 0) (i := i) (by decide)).up (f := 29) (j := i) _ (fun q => by unfold isLs at q; omega)).drp hn (by omega)).up _ (fun q => by unfold isLs at q; omega)
theorem LA.nte {K : MS} {n i : Nat} (h : LA K n) (hn : n ≤ 201) (hh : isWK K i = true → nN K 31 i ≤ 12) : LA (nteD K i) n := by
  have h1 := h.cg (nteC_ls K i)
  unfold nteD
  split
  · rename_i hw
    refine h1.rel hn ?_
    rw [nN, nteC_o (by decide) (by decide) (by decide) (by decide) (by decide) (by decide) (by decide)]
    exact hh hw
  · exact h1
set_option maxHeartbeats 2000000 in
theorem k_noteEnd (d : Nat) (G : GH) (A : AS) (n F : Nat) (K : MS) (L : KL) (i0 : Nat) (hR : KR Y G A n F K L) (hi : 1 ≤ i0 ∧ i0 ≤ n) (hin : inK K n i0) (hj : jrOk K) (hL : LA K n) (hh : isWK K i0 = true → hdOk K i0) : Cd l yX8_noteEnd cX8_noteEnd 6 none (d + 7) ((ntcK K i0)) ((ntcK K i0)) Y [.inr (.inr (some (A 0 0))), .inr (.inr (some (A 1 i0)))] G (fun r G' => r = none ∧ ∃ A', KR Y G' A' n F (nteK K i0) L ∧ AK A A') := by
  refine Ct.of (ini := False) (by decide +kernel) False.elim rfl (Nat.le_of_ble_eq_true rfl) ?_
  intro p e s m args below meth c C X
  have hn := hR.2.2.1
  have hjc : jcK (nteA K i0) ≤ ntcK K i0 := Nat.le_add_right _ _
  have hjA : jrOk (nteA K i0) := hj
  have R1_ := hR.m3 ((K 3 0) + (nI 1))
  have R2_ := R1_.pS (i := i0) (by omega) 10 ((K 3 0) + (nI 1)) rfl
  have R3_ := R2_.pS (i := i0) (by omega) 9 (K 2 0) rfl
  refine b_X8_noteEnd_0.go C ⟨_, hR.mn, _, rfl, _, hR.mn, _, R1_.mn, _, _, R1_.st (by omega), stC_ci _, _, R2_.mn, _, _, R2_.st (by omega), stC_ci _, _, R3_.mn, _, R3_.mn, _, _, R3_.st (by omega), stC_ci _, _, _, R3_.st (by omega), stC_ci _, _, rfl, trivial, ?_⟩
  refine k_X8_noteEnd_44.go C X (k_enter (d + 4) _ A n F (nteA K i0) L (K 2 0) (K 10 i0) (K 16 i0 - nI 3) R3_ hjA) (rest := []) rfl rfl rfl (fun _ => ⟨_, _, _, rfl, R3_.jr, by decide⟩) (lb rfl) (Rq.of (by omega) (by decide) (by show _ + jcK (nteA K i0) ≤ ntcK K i0; omega) (by show _ + jcK (nteA K i0) ≤ ntcK K i0; omega)) ?_
  rintro r G9 ⟨rfl, A1, R9, hA⟩
  rw [← hA.kt, ← hA.sg i0]
  have oB : ∀ f j, f ≠ 3 → f ≠ 20 → f ≠ 19 → f ≠ 80 → f ≠ 81 → f ≠ 82 → nteB K i0 f j = K f j := fun f j h3 h20 h19 h80 h81 h82 => by
    unfold nteB
    rw [jrn_o h82 (fun e => h80 e.1) (fun e => h81 e.1), nteA_o h3 h20 h19]
  have R9 : KR Y G9 A1 n F (nteB K i0) L := R9
  have e12 : nN (nteB K i0) 12 i0 = nN K 12 i0 := by rw [nN, oB 12 i0 (by decide) (by decide) (by decide) (by decide) (by decide) (by decide)]; rfl
  have h24 := hin.2.1
  refine b_X8_noteEnd_47.go C ⟨_, _, R9.st hi, stC_ci _, nN K 12 i0, Or.inl ⟨5, _, by decide, by rw [R9.inp hi, e12]; rfl⟩, trivial, ?_⟩
  refine (show ∀ (q j : Nat) (G1 : GH) (K1 : MS) (o : Option AV), j + q = nN K 12 i0 → KR Y G1 A1 n F K1 L → (∀ f, f ≠ 22 → K1 f = nteB K i0 f) → nteC K i0 = srvD K i0 q j K1 → V p l e (RM (d + 7) (ntcK K i0) (ntcK K i0)) s m args below meth c Y (GA G s.heap.size) (QM below args s (RM (d + 7) (ntcK K i0) (ntcK K i0)) Y G (fun r G' => r = none ∧ ∃ A', KR Y G' A' n F (nteK K i0) L ∧ AK A A')) 58 G1 (0 + jcK (nteA K i0)) (0 + jcK (nteA K i0)) [some (.inr (.inr (some (A1 0 0)))), some (.inr (.inr (some (A1 1 i0)))), some (.inr (.inr (some (A1 2 i0)))), some (.inl (nI (nN K 12 i0))), some (.inl (nI j)), o] [] from ?_) (nN K 12 i0) 0 G9 (nteB K i0) none (by omega) R9 (fun _ _ => rfl) rfl
  intro q
  induction q with
  | succ q ih =>
    intro j G1 K1 o hq R1 h1 hs
    obtain ⟨e1, e2, e3⟩ := hin.2.2 j (by omega)
    have e4 : K1 (1000 + i0) j = nI (iK K i0 j) := by rw [h1 _ (by omega), oB _ _ (by omega) (by omega) (by omega) (by omega) (by omega) (by omega)]; exact e1
    have e5 : nN K1 12 i0 = nN K 12 i0 := by rw [nN, h1 12 (by decide)]; exact e12
    have R2 := R1.pS (i := iK K i0 j) ⟨e2, e3⟩ 12 (K1 22 (iK K i0 j) - nI 1) rfl
    refine b_X8_noteEnd_58.go C ⟨fun h => absurd (show nN K 12 i0 ≤ j from (nI_leI (by omega) (by omega)).mp h) (by omega), fun h58 => ⟨trivial, ?_⟩⟩
    refine b_X8_noteEnd_64.go C ⟨_, _, R1.inp hi, j, rfl, by rw [e5]; omega, by omega, _, dec_n e4 e2 (by omega), _, _, R1.st ⟨e2, e3⟩, stC_ci _, _, rfl, _, _, R1.st ⟨e2, e3⟩, stC_ci _, _, nI_1 _, trivial, ?_⟩
    refine ih (j + 1) _ _ _ (by omega) R2 (fun f hf => ?_) (by rw [hs, srvD])
    rw [up2_f hf]; exact h1 f hf
  | zero =>
    intro j G1 K1 o hq R1 h1 hs
    rw [srvD] at hs
    subst hs
    have e16 : nteC K i0 16 i0 = K 16 i0 := nteC_o (by decide) (by decide) (by decide) (by decide) (by decide) (by decide) (by decide)
    have ew : isWK (nteC K i0) i0 = isWK K i0 := wk_e (fun j => nteC_o (by decide) (by decide) (by decide) (by decide) (by decide) (by decide) (by decide)) i0
    have LD := hL.nte (i := i0) hn (fun h => (hh h).2)
    have o22 : ∀ z, isWK K i0 = true → relK (nteC K i0) i0 16 z = nteC K i0 16 z := fun z hw => by
      have h12 : nN (nteC K i0) 31 i0 ≤ 12 := by rw [nN, nteC_o (by decide) (by decide) (by decide) (by decide) (by decide) (by decide) (by decide)]; exact (hh hw).2
      unfold relK
      split
      · exact drp_o (by decide) (by omega)
      · rw [up2_f (by decide), drp_o (by omega) (by omega), relA, up2_f (by decide), drp_o (by decide) (by omega)]
    have eD : nteD K i0 16 i0 = K 16 i0 := by
      unfold nteD
      split
      · rename_i hw; rw [o22 i0 hw]; exact e16
      · exact e16
    have tl : ∀ (G2 : GH) (o2 : Option AV), KR Y G2 A1 n F (nteD K i0) L → V p l e (RM (d + 7) (ntcK K i0) (ntcK K i0)) s m args below meth c Y (GA G s.heap.size) (QM below args s (RM (d + 7) (ntcK K i0) (ntcK K i0)) Y G (fun r G' => r = none ∧ ∃ A', KR Y G' A' n F (nteK K i0) L ∧ AK A A')) 104 G2 (0 + jcK (nteA K i0)) (0 + jcK (nteA K i0)) [some (.inr (.inr (some (A1 0 0)))), some (.inr (.inr (some (A1 1 i0)))), o2, some (.inl (nI (nN K 12 i0))), some (.inl (nI j)), o] [] := by
      intro G2 o2 R2
      refine b_X8_noteEnd_104.go C ⟨_, _, R2.st hi, stC_ci _, fun h104 => ⟨trivial, ?_⟩, fun h104 => ⟨trivial, ?_⟩⟩
      · have h104 : ¬ nteD K i0 16 i0 = nI 7 := h104
        rw [eD] at h104
        exact V_vret C X d_X8_noteEnd_122 (by show _ ≤ ntcK K i0; omega) (by show _ ≤ ntcK K i0; omega) ⟨rfl, A1, by rw [nteK, if_neg h104]; exact R2, hA⟩
      · have h104 : nteD K i0 16 i0 = nI 7 := h104
        rw [eD] at h104
        have hc : ntcK K i0 = jcK (nteA K i0) + acK (nteD K i0) 13 := by rw [ntcK, if_pos h104]
        have L13 := LD 13 (by decide)
        refine b_X8_noteEnd_113.go C ⟨_, R2.mn, trivial, ?_⟩
        refine k_X8_noteEnd_118.go C X (k_add d G2 A1 n F (nteD K i0) L 13 i0 R2 (by decide) L13.1 (by omega) hi) (rest := []) rfl rfl rfl (fun _ => ⟨_, _, _, rfl, R2.1 9 13 (show 13 ≤ 13 by omega), by decide⟩) (lb rfl) (Rq.of (by omega) (by decide) (by show _ ≤ ntcK K i0; omega) (by show _ ≤ ntcK K i0; omega)) ?_
        rintro r G8 ⟨rfl, A2, R8, hA2⟩
        refine b_X8_noteEnd_121.go C ⟨trivial, ?_⟩
        exact V_vret C X d_X8_noteEnd_122 (by show _ ≤ ntcK K i0; omega) (by show _ ≤ ntcK K i0; omega) ⟨rfl, A2, by rw [nteK, if_pos h104]; exact R8, hA.tr hA2⟩
    refine b_X8_noteEnd_58.go C ⟨fun h58 => ⟨trivial, ?_⟩, fun h => absurd (nI_le (by omega) (by omega)) h⟩
    by_cases hw : isWK K i0 = true
    · have hwC : isWK (nteC K i0) i0 = true := ew.trans hw
      have hhC : hdOk (nteC K i0) i0 := by
        have e31 : nteC K i0 31 i0 = K 31 i0 := nteC_o (by decide) (by decide) (by decide) (by decide) (by decide) (by decide) (by decide)
        exact ⟨by rw [e31, nN, e31]; exact (hh hw).1, by rw [nN, e31]; exact (hh hw).2⟩
      refine b_X8_noteEnd_87.go C ⟨nI 1, ⟨fun h => absurd h (by decide +kernel), fun _ => ⟨trivial, ?_⟩⟩, Or.inr ⟨_, _, rfl, Or.inr ⟨R1.wk hi hwC, by decide +kernel⟩⟩⟩
      refine b_X8_noteEnd_94.go C ⟨fun a9 h9 => by cases h9; exact ⟨_, _, R1.wk hi hwC, by decide⟩, trivial, ?_⟩
      refine k_X8_noteEnd_101.go C X (k_release (d + 2) G1 A1 n F (nteC K i0) L i0 R1 hi hwC (hL.cg (nteC_ls K i0)) hhC) (rest := []) rfl rfl rfl (fun _ => ⟨_, _, _, rfl, R1.mn, by decide⟩) (lb rfl) (Rq.of (by omega) (by decide) (by show _ ≤ ntcK K i0; omega) (by show _ ≤ ntcK K i0; omega)) ?_
      rintro r G8 ⟨rfl, R8⟩
      exact tl G8 _ (by rw [nteD, if_pos hw]; exact R8)
    · have hwC : isWK (nteC K i0) i0 = false := by rw [ew]; simpa using hw
      refine b_X8_noteEnd_87.go C ⟨nI 0, ⟨fun _ => ⟨trivial, ?_⟩, fun h => absurd nI_0 h⟩, Or.inr ⟨_, _, rfl, Or.inl ⟨R1.sg hi hwC, by decide +kernel⟩⟩⟩
      exact tl G1 _ (by rw [nteD, if_neg hw]; exact R1)
end CLI
