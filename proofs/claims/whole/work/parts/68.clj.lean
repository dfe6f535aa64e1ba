/-! the class: what is left of the room; payDues, conclude -/
section CLJ
theorem V.widen {p : Program} {l : Launch} {e : Env} {R : Room} {s : State} {m : MethodId} {args : Array Value} {below : List Frame} {meth : Method} {c : Code} {Y : YT} {A : Nat → Prop} {Q : State → Prop} {pc : Nat} {G : GH} {n k n' k' : Nat} {lc : List (Option AV)} {st : List AV} (hn : n ≤ n') (hk : k ≤ k') (h : V p l e R s m args below meth c Y A Q pc G n' k' lc st) : V p l e R s m args below meth c Y A Q pc G n k lc st := fun L H locs ls h1 h2 h3 h4 h5 => W.widen hn hk (h L H locs ls h1 h2 h3 h4 h5)
section PHI
variable {n F : Nat} {K K' : MS}
def PhL (K : MS) : Nat := sumN (fun a => 4 * (1510 - cpK K a)) 14
/-- what may still be made -/
def PhK (K : MS) (F : Nat) : Nat := 64 * (200 - nN K 3 0) + 40 * (2000 - F) + PhL K + 2 * (48000 - nN K 81 0)
theorem PhL_e (e : ∀ f j, isLs f → K' f j = K f j) : PhL K' = PhL K := sumN_congr (fun a _ => by rw [cpK_e e])
theorem PhL_one {a : Nat} (ha : a ≤ 13) (h : ∀ b, b ≤ 13 → b ≠ a → cpK K' b = cpK K b) : PhL K' + 4 * (1510 - cpK K a) = PhL K + 4 * (1510 - cpK K' a) := sumN_one (f := fun a => 4 * (1510 - cpK K' a)) (g := fun a => 4 * (1510 - cpK K a)) (i := a) (n := 14) (by omega) (fun b hb hba => by show 4 * (1510 - cpK K' b) = 4 * (1510 - cpK K b); rw [h b (by omega) hba])
theorem PhL_drp {a i : Nat} (ha : a ≤ 13) (h : LOk K n a) : PhL (drpK K a i) = PhL K := by
  have := PhL_one (K := K) (K' := drpK K a i) ha (fun b hb e => (oth_L (K := K) (K' := drpK K a i) (n := n) (i := i) hb ha e (fun f j h1 h2 => drp_o h1 h2)).2.1)
  rw [drp_C h] at this
  omega
theorem PhL_clr {a : Nat} (ha : a ≤ 13) (h : LOk K n a) : PhL (clrK K a) = PhL K := by
  have := PhL_one (K := K) (K' := clrK K a) ha (fun b hb e => (oth_L (K := K) (K' := clrK K a) (n := n) (i := 0) hb ha e (fun f j h1 h2 => clr_o h1 h2)).2.1)
  rw [(clr_ok h).C] at this
  omega
theorem PhL_add {a i : Nat} (ha : a ≤ 13) (h : LOk K n a) (hn : n ≤ 201) (hlen : (lsL K a).length ≤ 300) (hi : 1 ≤ i ∧ i ≤ n) : acK K a + PhL (addK K a i) ≤ PhL K := by
  have h1 := PhL_one (K := K) (K' := addK K a i) ha (fun b hb e => (oth_L (K := K) (K' := addK K a i) (n := n) (i := i) hb ha e (fun f j h1 h2 => add_o h1 h2)).2.1)
  rw [add_C h hn hlen hi] at h1
  have hcp := h.2.2.1
  have hg := grC_le hcp
  have hg2 : 4 * cpK K a ≤ 3 * grC (cpK K a) := by unfold grC; split <;> omega
  unfold acK acN
  by_cases e : (lsL K a).length < cpK K a
  · rw [if_pos e] at h1 ⊢; omega
  · rw [if_neg e] at h1 ⊢; omega
theorem relK_o {i f j : Nat} (hh : nN K 31 i ≤ 12) (h29 : f ≠ 29) (h31 : f ≠ 31) (h63 : f ≠ 63) (hl : ¬ isLs f) : relK K i f j = K f j := by
  unfold isLs at hl
  unfold relK
  split
  · exact drp_o (by omega) (by omega)
  · rw [up2_f h31, drp_o (by omega) (by omega), relA, up2_f h29, drp_o (by omega) (by omega)]
theorem PhL_rel {i : Nat} (h : LA K n) (hn : n ≤ 201) (hh : nN K 31 i ≤ 12) : PhL (relK K i) = PhL K := by
  have e29 : ∀ f j, isLs f → relA K i f j = drpK K 0 i f j := up_ls (fun q => by unfold isLs at q; omega)
  unfold relK
  split
  · exact PhL_drp (by decide) (h 0 (by decide)).1
  · rw [PhL_e (up_ls (fun q => by unfold isLs at q; omega)), PhL_drp (n := n) (by omega) (((h.drp hn (a := 0) (i := i) (by decide)).cg e29) _ (by omega)).1, PhL_e e29]
    exact PhL_drp (by decide) (h 0 (by decide)).1
theorem nteC31 (K : MS) (i : Nat) : nN (nteC K i) 31 i = nN K 31 i := by rw [nN, nteC_o (by decide) (by decide) (by decide) (by decide) (by decide) (by decide) (by decide)]; rfl
theorem PhL_nte {i : Nat} (h : LA K n) (hn : n ≤ 201) (hh : isWK K i = true → nN K 31 i ≤ 12) : PhL (nteD K i) = PhL K := by
  unfold nteD
  split
  · rename_i hw
    rw [PhL_rel (h.cg (nteC_ls K i)) hn (by rw [nteC31]; exact hh hw), PhL_e (nteC_ls K i)]
  · exact PhL_e (nteC_ls K i)
theorem nteD_o {i f j : Nat} (hh : isWK K i = true → nN K 31 i ≤ 12) (h29 : f ≠ 29) (h31 : f ≠ 31) (h63 : f ≠ 63) (hl : ¬ isLs f) : nteD K i f j = nteC K i f j := by
  unfold nteD
  split
  · rename_i hw
    exact relK_o (by rw [nteC31]; exact hh hw) h29 h31 h63 hl
  · rfl
theorem nteK_o {i f j : Nat} (hh : isWK K i = true → nN K 31 i ≤ 12) (h29 : f ≠ 29) (h31 : f ≠ 31) (h63 : f ≠ 63) (hl : ¬ isLs f) : nteK K i f j = nteC K i f j := by
  have hl2 := hl
  unfold isLs at hl2
  unfold nteK
  split
  · rw [add_o (by omega) (by omega)]; exact nteD_o hh h29 h31 h63 hl
  · exact nteD_o hh h29 h31 h63 hl
theorem nteC_3 (K : MS) (i : Nat) : nteC K i 3 0 = K 3 0 + nI 1 := by
  unfold nteC nteB
  rw [srvD_o _ _ _ _ _ 3 (by decide), jrn_o (by decide) (by decide) (by decide)]
  unfold nteA
  rw [up2_f (by decide), up2_f (by decide), up2_s]
theorem nteC_81 (K : MS) (i : Nat) : nN (nteC K i) 81 0 = nN (nteB K i) 81 0 := by
  unfold nteC; rw [nN, srvD_o _ _ _ _ _ 81 (by decide)]; rfl
theorem jrn_81 {v s ev : Int32} (hj : jrOk K) : nN (jrnK K v s ev) 81 0 = if 3 * nN K 80 0 + 3 ≤ nN K 81 0 then nN K 81 0 else 2 * nN K 81 0 := by
  obtain ⟨-, -, -, -, h6⟩ := hj
  unfold jrnK
  split
  · rw [nN, jrU_81, nI_clamp (by omega)]
  · rw [nN, jrU_81, nI_clamp (by omega)]
theorem jc_le {v s ev : Int32} (hj : jrOk K) : jcK K + 2 * (48000 - nN (jrnK K v s ev) 81 0) ≤ 2 * (48000 - nN K 81 0) := by
  rw [jrn_81 hj]
  obtain ⟨-, -, -, -, h6⟩ := hj
  unfold jcK
  split <;> omega
/-- an end costs less than what it takes from the room that is left -/
theorem ntc_le {i e : Nat} (hL : LA K n) (hn : n ≤ 201) (hj : jrOk K) (he : K 3 0 = nI e) (he2 : e < 200) (hh : isWK K i = true → nN K 31 i ≤ 12) (hi : 1 ≤ i ∧ i ≤ n) : ntcK K i + 64 + PhK (nteK K i) F ≤ PhK K F := by
  have h3 : nN (nteK K i) 3 0 = e + 1 := by rw [nN, nteK_o hh (by decide) (by decide) (by decide) (fun q => by unfold isLs at q; omega), nteC_3, he, nI_add, nI_clamp (by omega)]
  have h3' : nN K 3 0 = e := nN_of he (by omega)
  have h81 : nN (nteK K i) 81 0 = nN (nteB K i) 81 0 := by rw [nN, nteK_o hh (by decide) (by decide) (by decide) (fun q => by unfold isLs at q; omega)]; exact nteC_81 K i
  have hjc : jcK (nteA K i) + 2 * (48000 - nN (nteB K i) 81 0) ≤ 2 * (48000 - nN K 81 0) := jc_le (K := nteA K i) hj
  have hPL : (if K 16 i = nI 7 then acK (nteD K i) 13 else 0) + PhL (nteK K i) ≤ PhL K := by
    have hD := PhL_nte (i := i) hL hn hh
    have L13 := hL.nte (i := i) hn hh 13 (by decide)
    unfold nteK
    split
    · have := PhL_add (a := 13) (i := i) (by decide) L13.1 hn (by omega) hi
      omega
    · omega
  unfold PhK ntcK
  rw [h3, h3', h81]
  omega
theorem PhK_off (t : Nat) : PhK (offK K t) F = PhK K F := by
  unfold PhK offK
  rw [PhL_e (up_ls (fun q => by unfold isLs at q; omega))]; rfl
theorem PhK_clr (h : LOk K n 13) : PhK (clrK K 13) F = PhK K F := by
  unfold PhK
  rw [PhL_clr (by decide) h, nN, clr_o (by decide) (by decide), nN, clr_o (by decide) (by decide)]; rfl
end PHI
/-- what holds of the class whenever no end is under way -/
def CF (n F : Nat) (K : MS) : Prop := n ≤ 200 ∧ mdK K n n ∧ (∃ e, K 3 0 = nI e ∧ e ≤ 200 ∧ ∀ t, 1 ≤ t → t ≤ n → ¬ nI 5 ≤ K 16 t → e < 200) ∧ jrOk K ∧ LA K n ∧ ∀ t, 1 ≤ t → t ≤ n → K 10 t = nI t ∧ inK K n t ∧ (∀ j, j < nN K 12 t → iK K t j < t) ∧ (isWK K t = true → hdOk K t) ∧ (isWK K t = false → ¬ nI 5 ≤ K 16 t → rlOk K n F t)
variable {l : Launch} {Y : YT}
def duI (s : Nat) : Nat → Nat → MS → MS
  | 0, _, K => K
  | q + 1, k, K => duI s q (k + 1) (if ¬ nI 5 ≤ K 16 (iK K s k) ∧ K 22 (iK K s k) = 0 then nteK (offK K (iK K s k)) (iK K s k) else K)
def duS (K : MS) (j : Nat) : Nat := (lsL K 13)[j]?.getD 0
def duF : Nat → Nat → MS → MS
  | 0, _, K => K
  | q + 1, j, K => if j < (lsL K 13).length then duF q (j + 1) (duI (duS K j) (nN K 12 (duS K j)) 0 K) else K
def payK (K : MS) : MS := clrK (duF 200 0 K) 13
/-- what payDues asks of an invariant -/
def DuP (n F : Nat) (I : MS → Prop) : Prop := (∀ K, I K → CF n F K) ∧ ∀ K s k, I K → s ∈ lsL K 13 → k < nN K 12 s → ¬ nI 5 ≤ K 16 (iK K s k) → K 22 (iK K s k) = 0 → I (nteK (offK K (iK K s k)) (iK K s k)) ∧ s ∈ lsL (nteK (offK K (iK K s k)) (iK K s k)) 13
theorem nteK_in {K : MS} {i : Nat} (hh : isWK K i = true → nN K 31 i ≤ 12) (s : Nat) (hs : s ≤ 201) : nN (nteK K i) 12 s = nN K 12 s ∧ ∀ k, iK (nteK K i) s k = iK K s k := by
  refine ⟨?_, fun k => ?_⟩
  · rw [nN, nteK_o hh (by decide) (by decide) (by decide) (fun q => by unfold isLs at q; omega), nteC_o (by decide) (by decide) (by decide) (by decide) (by decide) (by decide) (by decide)]; rfl
  · rw [iK, nN, nteK_o hh (by omega) (by omega) (by omega) (fun q => by unfold isLs at q; omega), nteC_o (by omega) (by omega) (by omega) (by omega) (by omega) (by omega) (by omega)]; rfl
theorem duS_in {K : MS} {n j : Nat} (hL : LA K n) (hj : j < (lsL K 13).length) : duS K j ∈ lsL K 13 ∧ 1 ≤ duS K j ∧ duS K j ≤ n := by
  have hm : duS K j ∈ lsL K 13 := by
    unfold duS
    rw [List.getElem?_eq_getElem hj]
    exact List.getElem_mem _
  exact ⟨hm, (hL 13 (by decide)).1.2.2.2.2.1 _ hm⟩
theorem inK_e {K K' : MS} {n i : Nat} (e12 : K' 12 i = K 12 i) (er : K' (1000 + i) = K (1000 + i)) (h : inK K n i) : inK K' n i := by
  unfold inK iK nN at *
  rw [e12, er]; exact h
theorem inK_off {K : MS} {n i t : Nat} (h : inK K n i) : inK (offK K t) n i := inK_e (K := K) (K' := offK K t) (by unfold offK; rw [up2_f (by decide)]) (by unfold offK; rw [up2_f (by omega)]) h
/-- one step of payDues -/
theorem du_step {n F : Nat} {I : MS → Prop} (hP : DuP n F I) {K : MS} {s k : Nat} (hI : I K) (hs : s ∈ lsL K 13) (hk : k < nN K 12 s) (h1 : ¬ nI 5 ≤ K 16 (iK K s k)) (h2 : K 22 (iK K s k) = 0) : I (nteK (offK K (iK K s k)) (iK K s k)) ∧ s ∈ lsL (nteK (offK K (iK K s k)) (iK K s k)) 13 ∧ nN (nteK (offK K (iK K s k)) (iK K s k)) 12 s = nN K 12 s ∧ ntcK (offK K (iK K s k)) (iK K s k) + 64 + PhK (nteK (offK K (iK K s k)) (iK K s k)) F ≤ PhK K F := by
  obtain ⟨hn, hmd, ⟨e0, he, he2, he3⟩, hjr, hL, hT⟩ := hP.1 K hI
  have hs1 := (hL 13 (by decide)).1.2.2.2.2.1 _ hs
  obtain ⟨t1, t2, t3, t4, t5⟩ := hT s hs1.1 hs1.2
  obtain ⟨-, u1, u2⟩ := t2.2.2 k hk
  obtain ⟨v1, v2, v3, v4, v5⟩ := hT _ u1 u2
  have hh : isWK (offK K (iK K s k)) (iK K s k) = true → nN (offK K (iK K s k)) 31 (iK K s k) ≤ 12 := fun h => (v4 h).2
  obtain ⟨a1, a2⟩ := hP.2 K s k hI hs hk h1 h2
  have hc := ntc_le (F := F) (K := offK K (iK K s k)) (i := iK K s k) (n := n) (e := e0) (hL.up _ (fun q => by unfold isLs at q; omega)) (by omega) hjr he (he3 _ u1 u2 h1) hh ⟨u1, u2⟩
  rw [PhK_off] at hc
  exact ⟨a1, a2, (nteK_in hh s (by omega)).1, hc⟩
theorem duI_ok {n F : Nat} {I : MS → Prop} (hP : DuP n F I) (s : Nat) : ∀ (q k : Nat) (K : MS), I K → s ∈ lsL K 13 → k + q = nN K 12 s → I (duI s q k K) ∧ PhK (duI s q k K) F ≤ PhK K F
  | 0, _, K, hI, _, _ => ⟨hI, Nat.le_refl _⟩
  | q + 1, k, K, hI, hs, hk => by
    rw [duI]
    by_cases hc : ¬ nI 5 ≤ K 16 (iK K s k) ∧ K 22 (iK K s k) = 0
    · rw [if_pos hc]
      obtain ⟨a1, a2, a3, a4⟩ := du_step hP hI hs (by omega) hc.1 hc.2
      obtain ⟨b1, b2⟩ := duI_ok hP s q (k + 1) _ a1 a2 (by omega)
      exact ⟨b1, by omega⟩
    · rw [if_neg hc]
      exact duI_ok hP s q (k + 1) K hI hs (by omega)
theorem duF_ok {n F : Nat} {I : MS → Prop} (hP : DuP n F I) : ∀ (q j : Nat) (K : MS), I K → I (duF q j K) ∧ PhK (duF q j K) F ≤ PhK K F
  | 0, _, K, hI => ⟨hI, Nat.le_refl _⟩
  | q + 1, j, K, hI => by
    rw [duF]
    by_cases hc : j < (lsL K 13).length
    · rw [if_pos hc]
      have hL := (hP.1 K hI).2.2.2.2.1
      obtain ⟨a1, a2⟩ := duI_ok hP (duS K j) (nN K 12 (duS K j)) 0 K hI (duS_in hL hc).1 (by omega)
      obtain ⟨b1, b2⟩ := duF_ok hP q (j + 1) _ a1
      exact ⟨b1, by omega⟩
    · rw [if_neg hc]; exact ⟨hI, Nat.le_refl _⟩
theorem pay_le {n F : Nat} {I : MS → Prop} (hP : DuP n F I) {K K1 : MS} {q j : Nat} (h1 : I K1) (hs : duF 200 0 K = duF q j K1) : PhK (payK K) F ≤ PhK K1 F := by
  obtain ⟨a1, a2⟩ := duF_ok hP q j K1 h1
  rw [payK, hs, PhK_clr (n := n) ((hP.1 _ a1).2.2.2.2.1 13 (by decide)).1]
  exact a2
set_option maxHeartbeats 2000000 in
theorem k_payDues (d : Nat) (G : GH) (A : AS) (n F : Nat) (K : MS) (L : KL) (I : MS → Prop) (hP : DuP n F I) (hR : KR Y G A n F K L) (hI : I K) : Cd l yX8_payDues cX8_payDues 6 none (d + 8) (PhK K F - PhK (payK K) F) (PhK K F - PhK (payK K) F) Y [.inr (.inr (some (A 0 0)))] G (fun r G' => r = none ∧ ∃ A', KR Y G' A' n F (payK K) L ∧ AK A A') := by
  refine Ct.of (ini := False) (by decide +kernel) False.elim rfl (Nat.le_of_ble_eq_true rfl) ?_
  intro p e s m args below meth c C X
  have fin : ∀ (j : Nat) (G1 : GH) (A1 : AS) (K1 : MS) (o2 o3 o4 o5 : Option AV), KR Y G1 A1 n F K1 L → AK A A1 → I K1 → duF 200 0 K = K1 → V p l e (RM (d + 8) (PhK K F - PhK (payK K) F) (PhK K F - PhK (payK K) F)) s m args below meth c Y (GA G s.heap.size) (QM below args s (RM (d + 8) (PhK K F - PhK (payK K) F) (PhK K F - PhK (payK K) F)) Y G (fun r G' => r = none ∧ ∃ A', KR Y G' A' n F (payK K) L ∧ AK A A')) 92 G1 (PhK K F - PhK K1 F) (PhK K F - PhK K1 F) [some (.inr (.inr (some (A1 0 0)))), some (.inl (nI j)), o2, o3, o4, o5] [] := by
    intro j G1 A1 K1 o2 o3 o4 o5 R1 hA h1 hs
    have L13 := (hP.1 K1 h1).2.2.2.2.1 13 (by decide)
    have ep : payK K = clrK K1 13 := by rw [payK, hs]
    have ef : PhK (payK K) F = PhK K1 F := by rw [ep]; exact PhK_clr L13.1
    refine b_X8_payDues_92.go C ⟨_, R1.mn, trivial, ?_⟩
    refine k_X8_payDues_96.go C X (k_clear (d + 7) G1 A1 n F K1 L 13 R1 (by decide) L13.1) (rest := []) rfl rfl rfl (fun _ => ⟨_, _, _, rfl, R1.1 9 13 (show 13 ≤ 13 by omega), by decide⟩) (lb rfl) (Rq.of (by omega) (by decide) (by rw [ef]; exact Nat.le_refl _) (by rw [ef]; exact Nat.le_refl _)) ?_
    rintro r G9 ⟨rfl, R9⟩
    exact V_vret C X d_X8_payDues_99 (by show _ ≤ PhK K F - PhK (payK K) F; rw [ef]; exact Nat.le_refl _) (by show _ ≤ PhK K F - PhK (payK K) F; rw [ef]; exact Nat.le_refl _) ⟨rfl, A1, by rw [ep]; exact R9, hA⟩
  have lp : ∀ (q j : Nat) (G1 : GH) (A1 : AS) (K1 : MS) (o2 o3 o4 o5 : Option AV), j + q = 200 → KR Y G1 A1 n F K1 L → AK A A1 → I K1 → PhK K1 F ≤ PhK K F → duF 200 0 K = duF q j K1 → V p l e (RM (d + 8) (PhK K F - PhK (payK K) F) (PhK K F - PhK (payK K) F)) s m args below meth c Y (GA G s.heap.size) (QM below args s (RM (d + 8) (PhK K F - PhK (payK K) F) (PhK K F - PhK (payK K) F)) Y G (fun r G' => r = none ∧ ∃ A', KR Y G' A' n F (payK K) L ∧ AK A A')) 2 G1 (PhK K F - PhK K1 F) (PhK K F - PhK K1 F) [some (.inr (.inr (some (A1 0 0)))), some (.inl (nI j)), o2, o3, o4, o5] [] := by
    intro q
    induction q with
    | zero =>
      intro j G1 A1 K1 o2 o3 o4 o5 hj R1 hA h1 hph hs
      rw [duF] at hs
      refine b_X8_payDues_2.go C ⟨fun _ => ⟨trivial, ?_⟩, fun h => absurd (nI_le (by omega) (by omega)) h⟩
      exact fin j G1 A1 K1 o2 o3 o4 o5 R1 hA h1 hs
    | succ q ih =>
      intro j G1 A1 K1 o2 o3 o4 o5 hj R1 hA h1 hph hs
      have hpl := pay_le hP h1 hs
      replace hs : duF 200 0 K = (if j < (lsL K1 13).length then duF q (j + 1) (duI (duS K1 j) (nN K1 12 (duS K1 j)) 0 K1) else K1) := hs.trans (by rw [duF])
      obtain ⟨hn, hmd, ⟨e0, he, he2, he3⟩, hjr, hL, hT⟩ := hP.1 K1 h1
      have L13 := hL 13 (by decide)
      have hcp := L13.1.2.2.1
      have hlc := L13.1.2.1
      have hls := R1.ls (by decide) L13.1
      refine b_X8_payDues_2.go C ⟨fun h => absurd (show 200 ≤ j from (nI_leI (by omega) (by omega)).mp h) (by omega), fun _ => ⟨trivial, ?_⟩⟩
      refine b_X8_payDues_9.go C ⟨_, R1.mn, trivial, ?_⟩
      refine k_X8_payDues_14.go C X (c_size (d + 7) G1 (A1 9 13) _ _ _ hls) (rest := [.inl (nI j)]) rfl rfl rfl (fun _ => ⟨_, _, _, rfl, hls, by decide⟩) (lb rfl) (Rq.of (by omega) (by decide) (by omega) (by omega)) ?_
      rintro r G9 ⟨h9, rfl⟩
      replace h9 := h9.symm
      subst h9
      refine b_X8_payDues_17.go C ⟨fun h17 => ⟨trivial, ?_⟩, fun h17 => ⟨trivial, ?_⟩⟩
      · have h17 : (lsL K1 13).length ≤ j := (nI_leI (by omega) (by omega)).mp h17
        rw [if_neg (by omega)] at hs
        exact fin j G1 A1 K1 o2 o3 o4 o5 R1 hA h1 hs
      have h17 : j < (lsL K1 13).length := Nat.lt_of_not_le (fun z => h17 (nI_le z (by omega)))
      rw [if_pos h17] at hs
      obtain ⟨s1, s2, s3⟩ := duS_in hL h17
      rcases L13.1.2.2.2.1 with ⟨h4, h5⟩ | ⟨h4, h5, h6⟩
      · omega
      have hea : eaK Y A1 K1 13 = A1 10 13 := by rw [eaK, if_neg h5]
      have hrow : G1 (A1 10 13) = some (oar 6 (cpK K1 13) (fun j => dec A1 1 (K1 (4000 + 13) j))) := by
        rcases R1.le (by decide) L13.1 with ⟨h8, -⟩ | ⟨h8, -⟩
        · omega
        · rw [hea] at h8; exact h8
      rw [hea] at hls
      have hget : dec A1 1 (K1 (4000 + 13) j) = some (A1 1 (duS K1 j)) := R1.lget L13.1 h17
      refine b_X8_payDues_20.go C ⟨_, R1.mn, trivial, ?_⟩
      refine k_X8_payDues_25.go C X (c_get (d + 5) G1 (A1 9 13) (A1 10 13) _ (cpK K1 13) j _ _ hls hrow h17 hlc (by omega)) (rest := []) rfl rfl rfl (fun _ => ⟨_, _, _, rfl, hls, by decide⟩) (lb rfl) (Rq.of (by omega) (by decide) (by omega) (by omega)) ?_
      rintro r G9 ⟨h9, rfl⟩
      replace h9 := h9.symm
      subst h9
      rw [hget]
      have hin := (hT _ s2 s3).2.1
      refine b_X8_payDues_28.go C ⟨fun a9 h9 => by cases h9; exact ⟨_, _, R1.st ⟨s2, s3⟩, stC_in _⟩, _, _, R1.st ⟨s2, s3⟩, stC_ci _, nN K1 12 (duS K1 j), Or.inl ⟨5, _, by decide, R1.inp ⟨s2, s3⟩⟩, trivial, ?_⟩
      generalize hsd : duS K1 j = sd at *
      generalize hnd : nN K1 12 sd = nd at *
      refine (show ∀ (q2 k : Nat) (G2 : GH) (A2 : AS) (K2 : MS) (o5 : Option AV), k + q2 = nd → nN K2 12 sd = nd → sd ∈ lsL K2 13 → KR Y G2 A2 n F K2 L → AK A A2 → I K2 → PhK K2 F ≤ PhK K F → duF 200 0 K = duF q (j + 1) (duI sd q2 k K2) → V p l e (RM (d + 8) (PhK K F - PhK (payK K) F) (PhK K F - PhK (payK K) F)) s m args below meth c Y (GA G s.heap.size) (QM below args s (RM (d + 8) (PhK K F - PhK (payK K) F) (PhK K F - PhK (payK K) F)) Y G (fun r G' => r = none ∧ ∃ A', KR Y G' A' n F (payK K) L ∧ AK A A')) 41 G2 (PhK K F - PhK K2 F) (PhK K F - PhK K2 F) [some (.inr (.inr (some (A2 0 0)))), some (.inl (nI j)), some (.inr (.inr (some (A2 2 sd)))), some (.inl (nI nd)), some (.inl (nI k)), o5] [] from ?_) nd 0 G1 A1 K1 _ (by omega) hnd s1 R1 hA h1 hph hs
      intro q2
      induction q2 with
      | zero =>
        intro k G2 A2 K2 o5 hk hnk hm R2 hA2 h2 hph2 hs2
        have h24 := hin.2.1
        rw [hnd] at h24
        refine b_X8_payDues_41.go C ⟨fun _ => ⟨trivial, ?_⟩, fun h => absurd (nI_le (by omega) (by omega)) h⟩
        refine b_X8_payDues_86.go C ⟨_, nI_1 _, trivial, ?_⟩
        exact ih (j + 1) G2 A2 K2 _ _ _ _ (by omega) R2 hA2 h2 hph2 hs2
      | succ q2 ih2 =>
        intro k G2 A2 K2 o5 hk hnk hm R2 hA2 h2 hph2 hs2
        have h24 := hin.2.1
        rw [hnd] at h24
        have hpl2 : PhK (payK K) F ≤ PhK K2 F := by
          obtain ⟨a1, a2⟩ := duI_ok hP sd (q2 + 1) k K2 h2 hm (by omega)
          have := pay_le hP a1 hs2
          omega
        obtain ⟨hn2, hmd2, ⟨e2, hee, hee2, hee3⟩, hjr2, hL2, hT2⟩ := hP.1 K2 h2
        have hin2 := (hT2 sd s2 s3).2.1
        obtain ⟨u0, u1, u2⟩ := hin2.2.2 k (by omega)
        obtain ⟨v1, v2, v3, v4, v5⟩ := hT2 _ u1 u2
        rw [duI] at hs2
        have nx : ∀ (G3 : GH) (A3 : AS) (K3 : MS) (a b : Nat), nN K3 12 sd = nd → sd ∈ lsL K3 13 → KR Y G3 A3 n F K3 L → AK A A3 → I K3 → PhK K3 F ≤ PhK K F → duF 200 0 K = duF q (j + 1) (duI sd q2 (k + 1) K3) → a ≤ PhK K F - PhK K3 F → b ≤ PhK K F - PhK K3 F → V p l e (RM (d + 8) (PhK K F - PhK (payK K) F) (PhK K F - PhK (payK K) F)) s m args below meth c Y (GA G s.heap.size) (QM below args s (RM (d + 8) (PhK K F - PhK (payK K) F) (PhK K F - PhK (payK K) F)) Y G (fun r G' => r = none ∧ ∃ A', KR Y G' A' n F (payK K) L ∧ AK A A')) 80 G3 a b [some (.inr (.inr (some (A3 0 0)))), some (.inl (nI j)), some (.inr (.inr (some (A3 2 sd)))), some (.inl (nI nd)), some (.inl (nI k)), some (.inr (.inr (some (A3 1 (iK K2 sd k)))))] [] := by
          intro G3 A3 K3 a b g1 g2 g3 g4 g5 g6 g7 g8 g9
          refine V.widen g8 g9 ?_
          refine b_X8_payDues_80.go C ⟨_, nI_1 _, trivial, ?_⟩
          exact ih2 (k + 1) G3 A3 K3 _ (by omega) g1 g2 g3 g4 g5 g6 g7
        refine b_X8_payDues_41.go C ⟨fun h => absurd (show nd ≤ k from (nI_leI (by omega) (by omega)).mp h) (by omega), fun _ => ⟨trivial, ?_⟩⟩
        refine b_X8_payDues_47.go C ⟨_, _, R2.inp ⟨s2, s3⟩, k, rfl, by omega, by omega, _, dec_n u0 u1 (by omega), trivial, ?_⟩
        refine k_X8_payDues_55.go C X (c_hasEnded (d + 7) G2 (A2 1 (iK K2 sd k)) _ _ _ (R2.st ⟨u1, u2⟩)) (rest := []) rfl rfl rfl (fun _ => ⟨_, _, _, rfl, R2.st ⟨u1, u2⟩, stC_in _⟩) (lb rfl) (Rq.of (by omega) (by decide) (by omega) (by omega)) ?_
        rintro r G9 ⟨h9, rfl⟩
        replace h9 := h9.symm
        subst h9
        refine b_X8_payDues_58.go C ⟨fun h58 => ⟨trivial, ?_⟩, fun h58 => ⟨trivial, ?_⟩⟩
        · have h58 : nI 5 ≤ K2 16 (iK K2 sd k) := wi_1 h58
          rw [if_neg (fun z => z.1 h58)] at hs2
          exact nx G2 A2 K2 _ _ hnk hm R2 hA2 h2 hph2 hs2 (Nat.le_refl _) (Nat.le_refl _)
        have h58 : ¬ nI 5 ≤ K2 16 (iK K2 sd k) := wi_0 h58
        refine b_X8_payDues_61.go C ⟨_, _, R2.st ⟨u1, u2⟩, stC_ci _, fun h61 => ⟨trivial, ?_⟩, fun h61 => ⟨trivial, ?_⟩⟩
        · have h61 : ¬ K2 22 (iK K2 sd k) = 0 := h61
          rw [if_neg (fun z => h61 z.2)] at hs2
          exact nx G2 A2 K2 _ _ hnk hm R2 hA2 h2 hph2 hs2 (Nat.le_refl _) (Nat.le_refl _)
        have h61 : K2 22 (iK K2 sd k) = 0 := h61
        rw [if_pos ⟨h58, h61⟩] at hs2
        obtain ⟨a1, a2, a3, a4⟩ := du_step hP h2 hm (show k < nN K2 12 sd by omega) h58 h61
        have hpl3 : PhK (payK K) F ≤ PhK (nteK (offK K2 (iK K2 sd k)) (iK K2 sd k)) F := by
          obtain ⟨b1, b2⟩ := duI_ok hP sd q2 (k + 1) _ a1 a2 (by omega)
          have := pay_le hP b1 hs2
          omega
        have R3 := R2.off ⟨u1, u2⟩
        refine b_X8_payDues_69.go C ⟨trivial, ?_⟩
        refine k_X8_payDues_71.go C X (c_dismiss (d + 7) G2 (A2 1 (iK K2 sd k)) _ _ _ (R2.st ⟨u1, u2⟩)) (rest := []) rfl rfl rfl (fun _ => ⟨_, _, _, rfl, R2.st ⟨u1, u2⟩, stC_in _⟩) (lb rfl) (Rq.of (by omega) (by decide) (by omega) (by omega)) ?_
        rintro r G9 ⟨rfl, rfl⟩
        refine b_X8_payDues_74.go C ⟨trivial, ?_⟩
        refine k_X8_payDues_77.go C X (k_noteEnd d _ A2 n F (offK K2 (iK K2 sd k)) L (iK K2 sd k) R3 ⟨u1, u2⟩ (inK_off v2) hjr2 (hL2.up _ (fun q => by unfold isLs at q; omega)) v4) (rest := []) rfl rfl rfl (fun _ => ⟨_, _, _, rfl, R3.mn, by decide⟩) (lb rfl) (Rq.of (by omega) (by decide) (by omega) (by omega)) ?_
        rintro r G8 ⟨rfl, A3, R8, hA3⟩
        rw [← hA3.kt, ← hA3.inp sd, ← hA3.sg (iK K2 sd k)]
        exact nx G8 A3 _ _ _ (a3.trans hnk) a2 R8 (hA2.tr hA3) a1 (by omega) hs2 (by omega) (by omega)
  refine b_X8_payDues_0.go C ⟨trivial, ?_⟩
  have := lp 200 0 G A K none none none none (by omega) hR (AK.rf A) hI (Nat.le_refl _) rfl
  rw [Nat.sub_self] at this
  exact this
end CLJ
