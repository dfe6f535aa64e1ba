/-! the class: conclude -/
section CLK
variable {l : Launch} {Y : YT}
/-- the first input, or the stage itself -/
def finK (K : MS) (t : Nat) : Nat := if nN K 12 t = 0 then t else iK K t 0
/-- is the closing work t set free? -/
def frB (K : MS) (t : Nat) : Bool := decide (K 11 t = nI 4 ∧ K 16 t = 0 ∧ nI 5 ≤ K 16 (finK K t))
theorem fin_in {K : MS} {n t : Nat} (ht : 1 ≤ t ∧ t ≤ n) (hin : inK K n t) : 1 ≤ finK K t ∧ finK K t ≤ n := by
  unfold finK
  split
  · exact ht
  · exact (hin.2.2 0 (by omega)).2
theorem k_isSetFree (d : Nat) (G : GH) (A : AS) (n F : Nat) (K : MS) (L : KL) (t : Nat) (hR : KR Y G A n F K L) (ht : 1 ≤ t ∧ t ≤ n) (hw : isWK K t = true) (hin : inK K n t) : Cd l yX7_isSetFree cX7_isSetFree 1 (some .boolean) (d + 1) 0 0 Y [.inr (.inr (some (A 1 t)))] G (fun r G' => G' = G ∧ r = some (.inl (bI (frB K t)))) := by
  have hn := hR.2.2.1
  have h24 := hin.2.1
  have h := c_isSetFree (l := l) (Y := Y) d G (A 1 t) (A 2 t) (nN K 12 t) (A 1 (finK K t)) (isWK K (finK K t)) (sgK K t) (sgK K (finK K t)) (rhK A K t) (rhK A K (finK K t)) (fun j => dec A 1 (K (1000 + t) j)) (hR.wk ht hw) rfl ⟨hR.inp ht, by omega⟩ (by
    unfold finK
    by_cases h0 : nN K 12 t = 0
    · rw [if_pos h0, if_pos h0]
    · rw [if_neg h0, if_neg h0]
      obtain ⟨e1, e2, e3⟩ := hin.2.2 0 (by omega)
      exact dec_n e1 e2 (by omega)) (hR.st (fin_in ht hin))
  exact Ct.mono h (fun r G' ⟨h1, h2⟩ => ⟨h1, h2⟩)
/-- stage t is asked -/
def stpS (S : MS × Nat) (t : Nat) : MS × Nat := if isWK S.1 t = true then (if frB S.1 t = true then (rdyK S.1 t, S.2) else S) else if nI 5 ≤ S.1 16 t then S else if (rulR S.1 t).1 = 0 then S else (nteK (resK S.1 t S.2 (rulR S.1 t)) t, resF S.2 (rulR S.1 t))
def cnF : Nat → Nat → MS × Nat → MS × Nat
  | 0, _, S => S
  | q + 1, t, S => cnF q (t + 1) (stpS S t)
def conS (n : Nat) (S : MS × Nat) (i : Nat) : MS × Nat := (payK (cnF (n - i) (i + 1) (nteK S.1 i, S.2)).1, (cnF (n - i) (i + 1) (nteK S.1 i, S.2)).2)
def CnP (n : Nat) (I : MS → Nat → Prop) : Prop := (∀ F, DuP n F (fun K => I K F)) ∧ (∀ K F t, I K F → 1 ≤ t → t ≤ n → I (stpS (K, F) t).1 (stpS (K, F) t).2) ∧ (∀ K F t, I K F → 1 ≤ t → t ≤ n → isWK K t = false → ¬ nI 5 ≤ K 16 t → (rulR K t).1 ≠ 0 → nI 5 ≤ resK K t F (rulR K t) 16 t)
theorem res_o {K : MS} {i F : Nat} {r : Rs} {f j : Nat} (h16 : f ≠ 16) (h17 : f ≠ 17) (h18 : f ≠ 18) (h5 : ¬ (50 ≤ f ∧ f ≤ 58)) (hb : f < 10000) : resK K i F r f j = K f j := by
  obtain ⟨k, a⟩ := r
  match k with
  | 0 => rfl
  | 1 =>
    show asK K i a.1 f j = K f j
    unfold asK; rw [up2_f h18, up2_f h17, up2_f h16]
  | 2 =>
    show gainK K i a.2.1 f j = K f j
    unfold gainK; rw [up2_f h17, up2_f h16]
  | 3 =>
    show offK K i f j = K f j
    unfold offK; rw [up2_f h16]
  | k + 4 =>
    show failK (newFK K (F + 1) a.2.2.1 (K 10 i) a.2.2.2.1 a.2.2.2.2.1 a.2.2.2.2.2) i (nI (F + 1)) f j = K f j
    unfold failK; rw [up2_f h18, up2_f h16, newFK_o (by omega) (by omega)]
theorem res_ls {K : MS} {i F : Nat} {r : Rs} : ∀ f j, isLs f → resK K i F r f j = K f j := fun f j h => res_o (fun e => by subst e; unfold isLs at h; omega) (fun e => by subst e; unfold isLs at h; omega) (fun e => by subst e; unfold isLs at h; omega) (fun e => by unfold isLs at h; omega) (by unfold isLs at h; omega)
theorem resF_ge (F : Nat) (r : Rs) : F ≤ resF F r := by unfold resF; split <;> omega
theorem PhK_res {K : MS} {i F : Nat} {r : Rs} : PhK (resK K i F r) (resF F r) ≤ PhK K F := by
  have hF := resF_ge F r
  unfold PhK
  rw [PhL_e res_ls, nN, res_o (by decide) (by decide) (by decide) (by decide) (by decide), nN, res_o (by decide) (by decide) (by decide) (by decide) (by decide)]
  show 64 * (200 - nN K 3 0) + 40 * (2000 - resF F r) + PhL K + 2 * (48000 - nN K 81 0) ≤ _
  omega
theorem PhK_rdy {K : MS} {n F t : Nat} (h : LOk K n 0) (hn : n ≤ 201) (hlen : (lsL K 0).length ≤ 300) (ht : 1 ≤ t ∧ t ≤ n) : acK K 0 + PhK (rdyK K t) F ≤ PhK K F := by
  have e := rdyA_ls K t
  have h1 := PhL_add (K := rdyA K t) (a := 0) (i := t) (by decide) (LOk_e (by decide) e h) hn (by rw [lsL_e (by decide) e]; exact hlen) ht
  rw [acK_e (by decide) e, PhL_e e] at h1
  have h3 : nN (rdyK K t) 3 0 = nN K 3 0 := by unfold rdyK; rw [nN, add_o (by decide) (by omega)]; rfl
  have h81 : nN (rdyK K t) 81 0 = nN K 81 0 := by unfold rdyK; rw [nN, add_o (by decide) (by omega)]; rfl
  unfold PhK
  rw [h3, h81]
  have : PhL (rdyK K t) = PhL (addK (rdyA K t) 0 t) := rfl
  omega
theorem jrOk_e {K K' : MS} (h80 : K' 80 0 = K 80 0) (h81 : K' 81 0 = K 81 0) (h : jrOk K) : jrOk K' := by
  unfold jrOk nN at *
  rw [h80, h81]; exact h
/-- what a stage's end in the loop asks and costs -/
theorem st_end {n F : Nat} {K : MS} {t : Nat} (hC : CF n F K) (ht : 1 ≤ t ∧ t ≤ n) (hw : isWK K t = false) (ho : ¬ nI 5 ≤ K 16 t) (r : Rs) : inK (resK K t F r) n t ∧ jrOk (resK K t F r) ∧ LA (resK K t F r) n ∧ isWK (resK K t F r) t = false ∧ ntcK (resK K t F r) t + 64 + PhK (nteK (resK K t F r) t) (resF F r) ≤ PhK K F := by
  obtain ⟨hn, hmd, ⟨e0, he, he2, he3⟩, hjr, hL, hT⟩ := hC
  have o : ∀ f j, f ≠ 16 → f ≠ 17 → f ≠ 18 → ¬ (50 ≤ f ∧ f ≤ 58) → f < 10000 → resK K t F r f j = K f j := fun f j a b c d e => res_o a b c d e
  have h1 : inK (resK K t F r) n t := inK_e (o 12 t (by decide) (by decide) (by decide) (by decide) (by decide)) (funext (fun j => o _ j (by omega) (by omega) (by omega) (by omega) (by omega))) (hT t ht.1 ht.2).2.1
  have h2 : jrOk (resK K t F r) := jrOk_e (o 80 0 (by decide) (by decide) (by decide) (by decide) (by decide)) (o 81 0 (by decide) (by decide) (by decide) (by decide) (by decide)) hjr
  have h3 : LA (resK K t F r) n := hL.cg res_ls
  have h4 : isWK (resK K t F r) t = false := by rw [wk_e (fun j => o 11 j (by decide) (by decide) (by decide) (by decide) (by decide))]; exact hw
  have h5 := ntc_le (F := resF F r) (K := resK K t F r) (i := t) (n := n) (e := e0) h3 (by omega) h2 ((o 3 0 (by decide) (by decide) (by decide) (by decide) (by decide)).trans he) (he3 t ht.1 ht.2 ho) (fun h => by rw [h4] at h; cases h) ht
  have h6 := PhK_res (K := K) (i := t) (F := F) (r := r)
  exact ⟨h1, h2, h3, h4, by omega⟩
theorem st_le {n : Nat} {I : MS → Nat → Prop} (hP : CnP n I) {S : MS × Nat} {t : Nat} (hI : I S.1 S.2) (ht : 1 ≤ t ∧ t ≤ n) : I (stpS S t).1 (stpS S t).2 ∧ PhK (stpS S t).1 (stpS S t).2 ≤ PhK S.1 S.2 := by
  obtain ⟨K, F⟩ := S
  refine ⟨hP.2.1 K F t hI ht.1 ht.2, ?_⟩
  have hC := (hP.1 F).1 K hI
  unfold stpS
  by_cases hw : isWK K t = true
  · rw [if_pos hw]
    split
    · have L0 := hC.2.2.2.2.1 0 (by decide)
      have := PhK_rdy (F := F) (t := t) L0.1 (by have := hC.1; omega) (by omega) ht
      show PhK (rdyK K t) F ≤ PhK K F
      omega
    · exact Nat.le_refl _
  · rw [if_neg hw]
    by_cases ho : nI 5 ≤ K 16 t
    · rw [if_pos ho]; exact Nat.le_refl _
    · rw [if_neg ho]
      split
      · exact Nat.le_refl _
      · have := (st_end hC ht (by simpa using hw) ho (rulR K t)).2.2.2.2
        show PhK (nteK (resK K t F (rulR K t)) t) (resF F (rulR K t)) ≤ PhK K F
        omega
theorem cn_ok {n : Nat} {I : MS → Nat → Prop} (hP : CnP n I) : ∀ (q t : Nat) (S : MS × Nat), I S.1 S.2 → 1 ≤ t → t + q ≤ n + 1 → I (cnF q t S).1 (cnF q t S).2 ∧ PhK (cnF q t S).1 (cnF q t S).2 ≤ PhK S.1 S.2
  | 0, _, S, hI, _, _ => ⟨hI, Nat.le_refl _⟩
  | q + 1, t, S, hI, h1, h2 => by
    obtain ⟨a1, a2⟩ := st_le hP hI ⟨h1, by omega⟩
    obtain ⟨b1, b2⟩ := cn_ok hP q (t + 1) (stpS S t) a1 (by omega) (by omega)
    rw [cnF]
    exact ⟨b1, by omega⟩
theorem con_le {n : Nat} {I : MS → Nat → Prop} (hP : CnP n I) {S S1 : MS × Nat} {i q t : Nat} (hI : I S1.1 S1.2) (h1 : 1 ≤ t) (h2 : t + q ≤ n + 1) (hs : cnF (n - i) (i + 1) (nteK S.1 i, S.2) = cnF q t S1) : PhK (conS n S i).1 (conS n S i).2 ≤ PhK S1.1 S1.2 := by
  obtain ⟨a1, a2⟩ := cn_ok hP q t S1 hI h1 h2
  unfold conS
  rw [hs]
  have := pay_le (hP.1 (cnF q t S1).2) (K := (cnF q t S1).1) (K1 := (cnF q t S1).1) (q := 200) (j := 0) a1 rfl
  exact Nat.le_trans this a2
set_option maxHeartbeats 4000000 in
theorem k_conclude (d : Nat) (G : GH) (A : AS) (n F : Nat) (K : MS) (L : KL) (i0 e0 : Nat) (I : MS → Nat → Prop) (hP : CnP n I) (hR : KR Y G A n F K L) (hi : 1 ≤ i0 ∧ i0 ≤ n) (hin : inK K n i0) (hj : jrOk K) (hL : LA K n) (hh : isWK K i0 = true → hdOk K i0) (he : K 3 0 = nI e0) (he2 : e0 < 200) (hI : I (nteK K i0) F) : Cd l yX8_conclude cX8_conclude 5 none (d + 9) (PhK K F - PhK (conS n (K, F) i0).1 (conS n (K, F) i0).2) (PhK K F - PhK (conS n (K, F) i0).1 (conS n (K, F) i0).2) Y [.inr (.inr (some (A 0 0))), .inr (.inr (some (A 1 i0)))] G (fun r G' => r = none ∧ ∃ A', KR Y G' A' n (conS n (K, F) i0).2 (conS n (K, F) i0).1 L ∧ AK A A') := by
  refine Ct.of (ini := False) (by decide +kernel) False.elim rfl (Nat.le_of_ble_eq_true rfl) ?_
  intro p e s m args below meth c C X
  have hn := hR.2.2.1
  have hc0 := ntc_le (F := F) (K := K) (i := i0) (n := n) (e := e0) hL (by omega) hj he he2 (fun h => (hh h).2) hi
  have hf0 := con_le (S := (K, F)) (S1 := (nteK K i0, F)) (i := i0) (q := n - i0) (t := i0 + 1) hP hI (by omega) (by omega) rfl
  have hf0 : PhK (conS n (K, F) i0).1 (conS n (K, F) i0).2 ≤ PhK (nteK K i0) F := hf0
  generalize hE : conS n (K, F) i0 = E at *
  generalize hT : PhK K F = T at *
  have lp : ∀ (q j : Nat) (G1 : GH) (A1 : AS) (K1 : MS) (F1 : Nat) (o3 o4 : Option AV), j + q = n → i0 ≤ j → KR Y G1 A1 n F1 K1 L → AK A A1 → I K1 F1 → PhK K1 F1 ≤ T → cnF (n - i0) (i0 + 1) (nteK K i0, F) = cnF q (j + 1) (K1, F1) → V p l e (RM (d + 9) (T - PhK E.1 E.2) (T - PhK E.1 E.2)) s m args below meth c Y (GA G s.heap.size) (QM below args s (RM (d + 9) (T - PhK E.1 E.2) (T - PhK E.1 E.2)) Y G (fun r G' => r = none ∧ ∃ A', KR Y G' A' n E.2 E.1 L ∧ AK A A')) 10 G1 (T - PhK K1 F1) (T - PhK K1 F1) [some (.inr (.inr (some (A1 0 0)))), some (.inr (.inr (some (A1 1 i0)))), some (.inl (nI j)), o3, o4] [] := by
    intro q
    induction q with
    | zero =>
      intro j G1 A1 K1 F1 o3 o4 hj hij R1 hA h1 hph hs
      obtain ⟨hn2, hmd, ⟨e1, he1, he12, he13⟩, hjr, hL1, hT1⟩ := (hP.1 F1).1 K1 h1
      have hsE : E = (payK K1, F1) := by rw [← hE]; unfold conS; rw [hs]; rfl
      have hpl := pay_le (hP.1 F1) (K := K1) (K1 := K1) (q := 200) (j := 0) h1 rfl
      have e0K : K1 0 0 = nI n := hmd.1
      refine b_X8_conclude_10.go C ⟨_, R1.mn, fun _ => ⟨trivial, ?_⟩, fun h => absurd (show K1 0 0 ≤ nI j by rw [e0K]; exact nI_le (by omega) (by omega)) h⟩
      refine b_X8_conclude_84.go C ⟨trivial, ?_⟩
      subst hsE
      refine k_X8_conclude_85.go C X (k_payDues d G1 A1 n F1 K1 L (fun K => I K F1) (hP.1 F1) R1 h1) (rest := []) rfl rfl rfl (fun _ => ⟨_, _, _, rfl, R1.mn, by decide⟩) (lb rfl) (Rq.of (by omega) (by decide) (by show _ ≤ T - PhK (payK K1) F1; omega) (by show _ ≤ T - PhK (payK K1) F1; omega)) ?_
      rintro r G9 ⟨rfl, A2, R9, hA2⟩
      exact V_vret C X d_X8_conclude_88 (by show _ ≤ T - PhK (payK K1) F1; omega) (by show _ ≤ T - PhK (payK K1) F1; omega) ⟨rfl, A2, R9, hA.tr hA2⟩
    | succ q ih =>
      intro j G1 A1 K1 F1 o3 o4 hj hij R1 hA h1 hph hs
      have hEl : PhK E.1 E.2 ≤ PhK K1 F1 := by rw [← hE]; exact con_le (S := (K, F)) (S1 := (K1, F1)) hP h1 (by omega) (by omega) hs
      rw [cnF] at hs
      obtain ⟨a1, a2⟩ := st_le hP (S := (K1, F1)) (t := j + 1) h1 ⟨by omega, by omega⟩
      have hEl2 : PhK E.1 E.2 ≤ PhK (stpS (K1, F1) (j + 1)).1 (stpS (K1, F1) (j + 1)).2 := by rw [← hE]; exact con_le (S := (K, F)) hP a1 (by omega) (by omega) hs
      have hC1 := (hP.1 F1).1 K1 h1
      obtain ⟨hn2, hmd, ⟨e1, he1, he12, he13⟩, hjr, hL1, hT1⟩ := hC1
      have e0K : K1 0 0 = nI n := hmd.1
      have e5K : K1 5 j = nI (j + 1) := hmd.2.2.2 j (by omega)
      have ht : 1 ≤ j + 1 ∧ j + 1 ≤ n := ⟨by omega, by omega⟩
      obtain ⟨t1, t2, t3, t4, t5⟩ := hT1 (j + 1) ht.1 ht.2
      have nx : ∀ (G3 : GH) (A3 : AS) (a b : Nat) (o4 : Option AV), KR Y G3 A3 n (stpS (K1, F1) (j + 1)).2 (stpS (K1, F1) (j + 1)).1 L → AK A A3 → a ≤ T - PhK (stpS (K1, F1) (j + 1)).1 (stpS (K1, F1) (j + 1)).2 → b ≤ T - PhK (stpS (K1, F1) (j + 1)).1 (stpS (K1, F1) (j + 1)).2 → V p l e (RM (d + 9) (T - PhK E.1 E.2) (T - PhK E.1 E.2)) s m args below meth c Y (GA G s.heap.size) (QM below args s (RM (d + 9) (T - PhK E.1 E.2) (T - PhK E.1 E.2)) Y G (fun r G' => r = none ∧ ∃ A', KR Y G' A' n E.2 E.1 L ∧ AK A A')) 78 G3 a b [some (.inr (.inr (some (A3 0 0)))), some (.inr (.inr (some (A3 1 i0)))), some (.inl (nI j)), some (.inr (.inr (some (A3 1 (j + 1))))), o4] [] := by
        intro G3 A3 a b o4 g3 g4 g8 g9
        refine V.widen g8 g9 ?_
        refine b_X8_conclude_78.go C ⟨_, nI_1 _, trivial, ?_⟩
        exact ih (j + 1) G3 A3 (stpS (K1, F1) (j + 1)).1 (stpS (K1, F1) (j + 1)).2 _ _ (by omega) (by omega) g3 g4 a1 (Nat.le_trans a2 hph) hs
      have a2 : PhK (stpS (K1, F1) (j + 1)).1 (stpS (K1, F1) (j + 1)).2 ≤ PhK K1 F1 := a2
      refine b_X8_conclude_10.go C ⟨_, R1.mn, fun h => absurd (show nI n ≤ nI j by rw [← e0K]; exact h) (fun z => by have := (nI_leI (by omega) (by omega)).mp z; omega), fun _ => ⟨trivial, ?_⟩⟩
      by_cases hw : isWK K1 (j + 1) = true
      · refine b_X8_conclude_18.go C ⟨_, R1.mn, _, _, R1.md, j, rfl, by omega, lb rfl, _, dec_n e5K (by omega) (by omega), nI 1, ⟨fun h => absurd h (by decide +kernel), fun _ => ⟨trivial, ?_⟩⟩, Or.inr ⟨_, _, rfl, Or.inr ⟨R1.wk ht hw, by decide +kernel⟩⟩⟩
        refine b_X8_conclude_32.go C ⟨fun a9 h9 => by cases h9; exact ⟨_, _, R1.wk ht hw, by decide⟩, trivial, ?_⟩
        refine k_X8_conclude_40.go C X (k_isSetFree (d + 7) G1 A1 n F1 K1 L (j + 1) R1 ht hw t2) (rest := []) rfl rfl rfl (fun _ => ⟨_, _, _, rfl, R1.wk ht hw, by decide⟩) (lb rfl) (Rq.of (by omega) (by decide) (by show _ ≤ T - PhK E.1 E.2; omega) (by show _ ≤ T - PhK E.1 E.2; omega)) ?_
        rintro r G9 ⟨h9, rfl⟩
        replace h9 := h9.symm
        subst h9
        refine b_X8_conclude_43.go C ⟨fun h43 => ⟨trivial, ?_⟩, fun h43 => ⟨trivial, ?_⟩⟩
        · have es : stpS (K1, F1) (j + 1) = (K1, F1) := by unfold stpS; rw [if_pos hw, if_neg (by rw [show frB (K1, F1).1 (j + 1) = false from bI_0 h43]; decide)]
          rw [es] at nx
          exact nx G1 A1 _ _ _ R1 hA (by show _ ≤ T - PhK K1 F1; omega) (by show _ ≤ T - PhK K1 F1; omega)
        · have es : stpS (K1, F1) (j + 1) = (rdyK K1 (j + 1), F1) := by unfold stpS; rw [if_pos hw, if_pos (show frB (K1, F1).1 (j + 1) = true from bI_1 h43)]
          rw [es] at nx hEl2
          have hEl2 : PhK E.1 E.2 ≤ PhK (rdyK K1 (j + 1)) F1 := hEl2
          have L0 := hL1 0 (by decide)
          have hcr := PhK_rdy (F := F1) (t := j + 1) L0.1 (by omega) (by omega) ht
          refine b_X8_conclude_46.go C ⟨trivial, ?_⟩
          refine k_X8_conclude_49.go C X (k_makeReady (d + 1) G1 A1 n F1 K1 L (j + 1) R1 ht hw L0.1 (by omega)) (rest := []) rfl rfl rfl (fun _ => ⟨_, _, _, rfl, R1.mn, by decide⟩) (lb rfl) (Rq.of (by omega) (by decide) (by show _ ≤ T - PhK E.1 E.2; omega) (by show _ ≤ T - PhK E.1 E.2; omega)) ?_
          rintro r G9 ⟨rfl, A2, R9, hA2⟩
          rw [← hA2.kt, ← hA2.sg i0, ← hA2.sg (j + 1)]
          refine b_X8_conclude_52.go C ⟨trivial, ?_⟩
          exact nx G9 A2 _ _ _ R9 (hA.tr hA2) (by show _ ≤ T - PhK (rdyK K1 (j + 1)) F1; omega) (by show _ ≤ T - PhK (rdyK K1 (j + 1)) F1; omega)
      · have hw : isWK K1 (j + 1) = false := by simpa using hw
        have hwn : ¬ isWK (K1, F1).1 (j + 1) = true := by rw [show isWK (K1, F1).1 (j + 1) = false from hw]; decide
        refine b_X8_conclude_18.go C ⟨_, R1.mn, _, _, R1.md, j, rfl, by omega, lb rfl, _, dec_n e5K (by omega) (by omega), nI 0, ⟨fun _ => ⟨trivial, ?_⟩, fun h => absurd nI_0 h⟩, Or.inr ⟨_, _, rfl, Or.inl ⟨R1.sg ht hw, by decide +kernel⟩⟩⟩
        refine b_X8_conclude_55.go C ⟨trivial, ?_⟩
        refine k_X8_conclude_56.go C X (c_hasEnded (d + 8) G1 (A1 1 (j + 1)) _ _ _ (R1.st ht)) (rest := []) rfl rfl rfl (fun _ => ⟨_, _, _, rfl, R1.st ht, stC_in _⟩) (lb rfl) (Rq.of (by omega) (by decide) (by show _ ≤ T - PhK E.1 E.2; omega) (by show _ ≤ T - PhK E.1 E.2; omega)) ?_
        rintro r G9 ⟨h9, rfl⟩
        replace h9 := h9.symm
        subst h9
        refine b_X8_conclude_59.go C ⟨fun h59 => ⟨trivial, ?_⟩, fun h59 => ⟨trivial, ?_⟩⟩
        · have h59 : nI 5 ≤ K1 16 (j + 1) := wi_1 h59
          have es : stpS (K1, F1) (j + 1) = (K1, F1) := by unfold stpS; rw [if_neg hwn, if_pos (show nI 5 ≤ (K1, F1).1 16 (j + 1) from h59)]
          rw [es] at nx
          exact nx G1 A1 _ _ _ R1 hA (by show _ ≤ T - PhK K1 F1; omega) (by show _ ≤ T - PhK K1 F1; omega)
        have h59 : ¬ nI 5 ≤ K1 16 (j + 1) := wi_0 h59
        have hrl := t5 hw h59
        obtain ⟨f1, f2, f3, f4, f5⟩ := st_end (n := n) (F := F1) (K := K1) ⟨hn2, hmd, ⟨e1, he1, he12, he13⟩, hjr, hL1, hT1⟩ ht hw h59 (rulR K1 (j + 1))
        by_cases hr0 : (rulR K1 (j + 1)).1 = 0
        · have es : stpS (K1, F1) (j + 1) = (K1, F1) := by unfold stpS; rw [if_neg hwn, if_neg (show ¬ nI 5 ≤ (K1, F1).1 16 (j + 1) from h59), if_pos (show (rulR (K1, F1).1 (j + 1)).1 = 0 from hr0)]
          rw [es] at nx
          have hc : rsC (rulR K1 (j + 1)) = 0 := if_pos hr0
          have eK : resK K1 (j + 1) F1 (rulR K1 (j + 1)) = K1 := by unfold resK; rw [hr0]; rfl
          have eF : resF F1 (rulR K1 (j + 1)) = F1 := by unfold resF; rw [hr0]; rfl
          refine b_X8_conclude_62.go C ⟨trivial, ?_⟩
          refine k_X8_conclude_63.go C X (k_settle (d + 4) G1 A1 n F1 K1 L (j + 1) R1 ht hrl) (rest := []) rfl rfl rfl (fun h => absurd rfl h) (lb rfl) (Rq.of (by omega) (by decide) (by show _ ≤ T - PhK E.1 E.2; omega) (by show _ ≤ T - PhK E.1 E.2; omega)) ?_
          rintro r G9 ⟨rfl, A2, R9, hX⟩
          have hA2 := hX.ak
          rw [eK, eF] at R9
          rw [← hA2.kt, ← hA2.sg i0, ← hA2.sg (j + 1)]
          refine b_X8_conclude_66.go C ⟨trivial, ?_⟩
          refine k_X8_conclude_67.go C X (c_hasEnded (d + 8) G9 (A2 1 (j + 1)) _ _ _ (R9.st ht)) (rest := []) rfl rfl rfl (fun _ => ⟨_, _, _, rfl, R9.st ht, stC_in _⟩) (lb rfl) (Rq.of (by omega) (by decide) (by show _ ≤ T - PhK E.1 E.2; omega) (by show _ ≤ T - PhK E.1 E.2; omega)) ?_
          rintro r G8 ⟨h9, rfl⟩
          replace h9 := h9.symm
          subst h9
          refine b_X8_conclude_70.go C ⟨fun _ => ⟨trivial, ?_⟩, fun h => absurd (wi_1 h) h59⟩
          exact nx G9 A2 _ _ _ R9 (hA.tr hA2) (by show _ ≤ T - PhK K1 F1; omega) (by show _ ≤ T - PhK K1 F1; omega)
        · have es : stpS (K1, F1) (j + 1) = (nteK (resK K1 (j + 1) F1 (rulR K1 (j + 1))) (j + 1), resF F1 (rulR K1 (j + 1))) := by unfold stpS; rw [if_neg hwn, if_neg (show ¬ nI 5 ≤ (K1, F1).1 16 (j + 1) from h59), if_neg (show ¬ (rulR (K1, F1).1 (j + 1)).1 = 0 from hr0)]
          rw [es] at nx hEl2
          have hEl2 : PhK E.1 E.2 ≤ PhK (nteK (resK K1 (j + 1) F1 (rulR K1 (j + 1))) (j + 1)) (resF F1 (rulR K1 (j + 1))) := hEl2
          have hend := hP.2.2 K1 F1 (j + 1) h1 ht.1 ht.2 hw h59 hr0
          have hc : rsC (rulR K1 (j + 1)) = 64 := if_neg hr0
          refine b_X8_conclude_62.go C ⟨trivial, ?_⟩
          refine k_X8_conclude_63.go C X (k_settle (d + 4) G1 A1 n F1 K1 L (j + 1) R1 ht hrl) (rest := []) rfl rfl rfl (fun h => absurd rfl h) (lb rfl) (Rq.of (by omega) (by decide) (by show _ ≤ T - PhK E.1 E.2; omega) (by show _ ≤ T - PhK E.1 E.2; omega)) ?_
          rintro r G9 ⟨rfl, A2, R9, hX⟩
          have hA2 := hX.ak
          rw [← hA2.kt, ← hA2.sg i0, ← hA2.sg (j + 1)]
          refine b_X8_conclude_66.go C ⟨trivial, ?_⟩
          refine k_X8_conclude_67.go C X (c_hasEnded (d + 8) G9 (A2 1 (j + 1)) _ _ _ (R9.st ht)) (rest := []) rfl rfl rfl (fun _ => ⟨_, _, _, rfl, R9.st ht, stC_in _⟩) (lb rfl) (Rq.of (by omega) (by decide) (by show _ ≤ T - PhK E.1 E.2; omega) (by show _ ≤ T - PhK E.1 E.2; omega)) ?_
          rintro r G8 ⟨h9, rfl⟩
          replace h9 := h9.symm
          subst h9
          refine b_X8_conclude_70.go C ⟨fun h => absurd hend (wi_0 h), fun _ => ⟨trivial, ?_⟩⟩
          refine b_X8_conclude_73.go C ⟨trivial, ?_⟩
          refine k_X8_conclude_75.go C X (k_noteEnd (d + 1) G9 A2 n _ _ L (j + 1) R9 ht f1 f2 f3 (fun h => by rw [f4] at h; cases h)) (rest := []) rfl rfl rfl (fun _ => ⟨_, _, _, rfl, R9.mn, by decide⟩) (lb rfl) (Rq.of (by omega) (by decide) (by show _ ≤ T - PhK E.1 E.2; omega) (by show _ ≤ T - PhK E.1 E.2; omega)) ?_
          rintro r G7 ⟨rfl, A3, R7, hA3⟩
          rw [← hA3.kt, ← hA3.sg i0, ← hA3.sg (j + 1)]
          exact nx G7 A3 _ _ _ R7 ((hA.tr hA2).tr hA3) (by show _ ≤ T - PhK (nteK (resK K1 (j + 1) F1 (rulR K1 (j + 1))) (j + 1)) (resF F1 (rulR K1 (j + 1))); omega) (by show _ ≤ T - PhK (nteK (resK K1 (j + 1) F1 (rulR K1 (j + 1))) (j + 1)) (resF F1 (rulR K1 (j + 1))); omega)
  have hI1 := (hP.1 F).1 _ hI
  have enum : nteK K i0 10 i0 = nI i0 := (hI1.2.2.2.2.2 i0 hi.1 hi.2).1
  refine b_X8_conclude_0.go C ⟨trivial, ?_⟩
  refine k_X8_conclude_2.go C X (k_noteEnd (d + 1) G A n F K L i0 hR hi hin hj hL hh) (rest := []) rfl rfl rfl (fun _ => ⟨_, _, _, rfl, hR.mn, by decide⟩) (lb rfl) (Rq.of (by omega) (by decide) (by show _ ≤ T - PhK E.1 E.2; omega) (by show _ ≤ T - PhK E.1 E.2; omega)) ?_
  rintro r G9 ⟨rfl, A2, R9, hA2⟩
  rw [← hA2.kt, ← hA2.sg i0]
  refine b_X8_conclude_5.go C ⟨_, _, R9.st hi, stC_ci _, trivial, ?_⟩
  refine V.widen (n' := T - PhK (nteK K i0) F) (k' := T - PhK (nteK K i0) F) (by omega) (by omega) ?_
  rw [show sgK (nteK K i0) i0 0 = nI i0 from enum]
  exact lp (n - i0) i0 G9 A2 (nteK K i0) F none none (by omega) (Nat.le_refl _) R9 hA2 hI (by show PhK (nteK K i0) F ≤ T; omega) rfl
end CLK
