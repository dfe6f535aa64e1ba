/-! the class: answer, failure -/
section XAFS
variable {l : Launch} {Y : YT}
def sIA : String := "java/lang/IllegalArgumentException"
def sIS : String := "java/lang/IllegalStateException"
def sIB : String := "java/lang/IndexOutOfBoundsException"
def sNs : List String := ["java/lang/RuntimeException", "java/lang/Exception"]
set_option maxRecDepth 100000 in
theorem xw_in : ∀ w ∈ [Cond.classLink RX8 193 sIA, Cond.initialized sIA, Cond.classLink RX8 200 sIS, Cond.initialized sIS, Cond.classLink RX8 226 sIB, Cond.initialized sIB], w ∈ tg := by decide +kernel
set_option maxRecDepth 100000 in
theorem xw_A : ∀ w ∈ (vx_atS RX8 197 sIA sNs).filter goodWord, w ∈ tg := by decide +kernel
set_option maxRecDepth 100000 in
theorem xw_S : ∀ w ∈ (vx_atS RX8 204 sIS sNs).filter goodWord, w ∈ tg := by decide +kernel
set_option maxRecDepth 100000 in
theorem xw_B : ∀ w ∈ (vx_atS RX8 230 sIB sNs).filter goodWord, w ∈ tg := by decide +kernel
set_option maxRecDepth 100000 in
theorem xn_A : ∀ w ∈ (vx_atS RX8 197 sIA sNs).filter (fun w => !goodWord w), w ∈ [Cond.castable sIA sIA, Cond.declares (Jvm.Bundle.initS "java/lang/RuntimeException"), Cond.declares (Jvm.Bundle.initS "java/lang/Exception"), Cond.declares (Jvm.Bundle.initS "java/lang/Throwable")] := by decide +kernel
set_option maxRecDepth 100000 in
theorem xn_S : ∀ w ∈ (vx_atS RX8 204 sIS sNs).filter (fun w => !goodWord w), w ∈ [Cond.castable sIS sIS, Cond.declares (Jvm.Bundle.initS "java/lang/RuntimeException"), Cond.declares (Jvm.Bundle.initS "java/lang/Exception"), Cond.declares (Jvm.Bundle.initS "java/lang/Throwable")] := by decide +kernel
set_option maxRecDepth 100000 in
theorem xn_B : ∀ w ∈ (vx_atS RX8 230 sIB sNs).filter (fun w => !goodWord w), w ∈ [Cond.castable sIB sIB, Cond.declares (Jvm.Bundle.initS "java/lang/RuntimeException"), Cond.declares (Jvm.Bundle.initS "java/lang/Exception"), Cond.declares (Jvm.Bundle.initS "java/lang/Throwable")] := by decide +kernel
set_option maxRecDepth 100000 in
theorem xg_A : ∀ w ∈ Cond.classLink RX8 193 sIA :: Cond.initialized sIA :: vx_atS RX8 197 sIA sNs, vx_ot w = true := by decide +kernel
set_option maxRecDepth 100000 in
theorem xg_S : ∀ w ∈ Cond.classLink RX8 200 sIS :: Cond.initialized sIS :: vx_atS RX8 204 sIS sNs, vx_ot w = true := by decide +kernel
set_option maxRecDepth 100000 in
theorem xg_B : ∀ w ∈ Cond.classLink RX8 226 sIB :: Cond.initialized sIB :: vx_atS RX8 230 sIB sNs, vx_ot w = true := by decide +kernel
theorem xf_A : Jvm.Bundle.fit sIA = true := by decide +kernel
theorem xf_S : Jvm.Bundle.fit sIS = true := by decide +kernel
theorem xf_B : Jvm.Bundle.fit sIB = true := by decide +kernel
theorem xf_n : ∀ n ∈ sNs, Jvm.Bundle.fit n = true := by decide +kernel
theorem xc_A : (sIA, sIA) ∈ tnC := by decide +kernel
theorem xc_S : (sIS, sIS) ∈ tnC := by decide +kernel
theorem xc_B : (sIB, sIB) ∈ tnC := by decide +kernel
/-- what answer throws -/
def ansX (K : MS) (v : Int32) (G : GH) : String → GH → Prop := fun E G' => G' = G ∧ ((¬ (nI 1 ≤ v ∧ v ≤ K 0 0) ∧ E = sIA) ∨ ((nI 1 ≤ v ∧ v ≤ K 0 0) ∧ ¬ K 16 v.toNatClampNeg = nI 5 ∧ E = sIS))
set_option maxHeartbeats 1000000 in
theorem x_answer (d : Nat) (hl : l.stackTraces = false) (G : GH) (A : AS) (n F : Nat) (K : MS) (L : KL) (v : Int32) (hR : KR Y G A n F K L) (hm : mdK K n n) : CtX l yX8_answer cX8_answer 3 (some .int) (RM (d + 6) 1 6) Y [.inr (.inr (some (A 0 0))), .inl v] G (fun r G' => G' = G ∧ (nI 1 ≤ v ∧ v ≤ K 0 0) ∧ K 16 v.toNatClampNeg = nI 5 ∧ r = some (.inl (K 17 v.toNatClampNeg))) (ansX K v G) := by
  refine CtX.of (by decide +kernel) rfl (Nat.le_of_ble_eq_true rfl) ?_
  intro p e s m args below meth c C X ht hE
  have hE0 := hE
  obtain ⟨⟨⟨a1, s1⟩, ⟨a2, s2⟩, -⟩, -⟩ := hE0
  refine b_X8_answer_0.go C ⟨trivial, ?_⟩
  refine k_X8_answer_2.go C X (k_find (d + 4) G A n F K L v n hR hm) (rest := []) rfl rfl rfl (fun _ => ⟨_, _, _, rfl, hR.mn, by decide⟩) (lb rfl) (Rq.of (by omega) (by decide) (Nat.zero_le _) (Nat.zero_le _)) ?_
  rintro r G9 ⟨h9, rfl⟩
  replace h9 := h9.symm
  subst h9
  by_cases hs : nI 1 ≤ v ∧ v ≤ K 0 0
  rotate_left
  · rw [if_neg hs]
    refine b_X8_answer_5.go C ⟨fun _ h => (by cases h), fun _ => ⟨trivial, ?_⟩⟩
    exact V_throw (own := RX8) (names := sNs) C X hl rfl ht hE s1 xf_A xf_n (xw_in _ (by simp)) (xw_in _ (by simp)) xw_A xn_A xc_A xg_A d_X8_answer_10 (show decode cX8_answer 13 = .ok (.dup, 1) by decide +kernel) d_X8_answer_14 d_X8_answer_16 d_X8_answer_19 (by show 2 + 3 < d + 6; omega) (by show 13 * (2 + 1) + 43 ≤ 40 * (d + 6); omega) (Nat.le_refl _) (Nat.le_refl _) ⟨rfl, Or.inl ⟨hs, rfl⟩⟩
  have hs0 := hs
  obtain ⟨j, hj1, hj2, rfl⟩ := sT hm hs
  have h200 := hm.2.2.1
  have ej : (nI j).toNatClampNeg = j := nI_clamp (by omega)
  rw [if_pos hs0, ej]
  refine b_X8_answer_5.go C ⟨fun _ _ => ⟨trivial, ?_⟩, fun h => (by cases h)⟩
  refine b_X8_answer_20.go C ⟨_, _, hR.st ⟨hj1, hj2⟩, stC_ci _, fun h20 => ⟨trivial, ?_⟩, fun h20 => ⟨trivial, ?_⟩⟩
  · refine b_X8_answer_38.go C ⟨_, _, hR.st ⟨hj1, hj2⟩, stC_ci _, trivial, ?_⟩
    exact V_x (V_iret C X d_X8_answer_42 (Nat.zero_le _) (Nat.zero_le _) ⟨rfl, hs0, h20, rfl⟩)
  · exact V_throw (own := RX8) (names := sNs) C X hl rfl ht hE s2 xf_S xf_n (xw_in _ (by simp)) (xw_in _ (by simp)) xw_S xn_S xc_S xg_S d_X8_answer_28 (show decode cX8_answer 31 = .ok (.dup, 1) by decide +kernel) d_X8_answer_32 d_X8_answer_34 d_X8_answer_37 (by show 2 + 3 < d + 6; omega) (by show 13 * (2 + 1) + 43 ≤ 40 * (d + 6); omega) (Nat.le_refl _) (Nat.le_refl _) ⟨rfl, Or.inr ⟨hs0, by rw [ej]; exact h20, rfl⟩⟩
/-- the walk of failure -/
abbrev flE (K : MS) (i : Int32) (u : Nat) : MS × Nat := wtF i 1000000 (stdK (up2 K 4 0 (K 4 0 + nI 1)) (nN K 18 u) (K 4 0 + nI 1) (nI 0) (nI 0) (nI 0)) (nI 1) (nN K 18 u) (nN K 18 u)
def flV (E : MS × Nat) (z : Int32) : Int32 := if z = 0 then E.1 50 E.2 else if z = nI 1 then E.1 51 E.2 else if z = nI 2 then (if E.1 58 E.2 = 0 then -4 else E.1 55 (nN E.1 58 E.2)) else E.1 56 E.2
def flP (K : MS) (v z : Int32) : Prop := (nI 1 ≤ v ∧ v ≤ K 0 0) ∧ (nI 0 ≤ z ∧ z ≤ nI 3)
def flX (Y : YT) (A : AS) (n F : Nat) (K : MS) (L : KL) (v i z : Int32) (G : GH) : String → GH → Prop := fun E G' => (¬ flP K v z ∧ E = sIA ∧ G' = G) ∨ (flP K v z ∧ K 18 v.toNatClampNeg = 0 ∧ E = sIS ∧ G' = G) ∨ (flP K v z ∧ ¬ K 18 v.toNatClampNeg = 0 ∧ E = sIB ∧ ¬ (flE K i v.toNatClampNeg).1 55 (flE K i v.toNatClampNeg).2 = i ∧ KR Y G' A n F (flE K i v.toNatClampNeg).1 L ∧ FW (flE K i v.toNatClampNeg).1 F)
set_option maxHeartbeats 2000000 in
theorem x_failure (d : Nat) (hl : l.stackTraces = false) (G : GH) (A : AS) (n F : Nat) (K : MS) (L : KL) (v i z : Int32) (hR : KR Y G A n F K L) (hm : mdK K n n) (hW : FW K F) (h18 : ∀ u, 1 ≤ u → u ≤ n → K 18 u = nI (nN K 18 u) ∧ nN K 18 u ≤ F) : CtX l yX8_failure cX8_failure 6 (some .int) (RM (d + 6) 1 6) Y [.inr (.inr (some (A 0 0))), .inl v, .inl i, .inl z] G (fun r G' => flP K v z ∧ ¬ K 18 v.toNatClampNeg = 0 ∧ (flE K i v.toNatClampNeg).1 55 (flE K i v.toNatClampNeg).2 = i ∧ KR Y G' A n F (flE K i v.toNatClampNeg).1 L ∧ FW (flE K i v.toNatClampNeg).1 F ∧ r = some (.inl (flV (flE K i v.toNatClampNeg) z))) (flX Y A n F K L v i z G) := by
  refine CtX.of (by decide +kernel) rfl (Nat.le_of_ble_eq_true rfl) ?_
  intro p e s m args below meth c C X ht hE
  have hE0 := hE
  obtain ⟨⟨-, -, ⟨a3, s3⟩, ⟨a4, s4⟩, a5, s5⟩, -⟩ := hE0
  have no : ∀ o, ¬ flP K v z → V p l e (RM (d + 6) 1 6) s m args below meth c Y (GA G s.heap.size) (QMX below args s (RM (d + 6) 1 6) Y G (fun r G' => flP K v z ∧ ¬ K 18 v.toNatClampNeg = 0 ∧ (flE K i v.toNatClampNeg).1 55 (flE K i v.toNatClampNeg).2 = i ∧ KR Y G' A n F (flE K i v.toNatClampNeg).1 L ∧ FW (flE K i v.toNatClampNeg).1 F ∧ r = some (.inl (flV (flE K i v.toNatClampNeg) z))) (flX Y A n F K L v i z G)) 21 G 0 0 [some (.inr (.inr (some (A 0 0)))), some (.inl v), some (.inl i), some (.inl z), o, none] [] := by
    intro o h
    exact V_throw (own := RX8) (names := sNs) C X hl rfl ht hE s3 xf_A xf_n (xw_in _ (by simp)) (xw_in _ (by simp)) xw_A xn_A xc_A xg_A d_X8_failure_21 (show decode cX8_failure 24 = .ok (.dup, 1) by decide +kernel) d_X8_failure_25 d_X8_failure_27 d_X8_failure_30 (by show 2 + 3 < d + 6; omega) (by show 13 * (2 + 1) + 43 ≤ 40 * (d + 6); omega) (Nat.le_refl _) (Nat.le_refl _) (Or.inl ⟨h, rfl, rfl⟩)
  refine b_X8_failure_0.go C ⟨trivial, ?_⟩
  refine k_X8_failure_2.go C X (k_find (d + 4) G A n F K L v n hR hm) (rest := []) rfl rfl rfl (fun _ => ⟨_, _, _, rfl, hR.mn, by decide⟩) (lb rfl) (Rq.of (by omega) (by decide) (Nat.zero_le _) (Nat.zero_le _)) ?_
  rintro r G9 ⟨h9, rfl⟩
  replace h9 := h9.symm
  subst h9
  by_cases hs : nI 1 ≤ v ∧ v ≤ K 0 0
  rotate_left
  · rw [if_neg hs]
    refine b_X8_failure_5.go C ⟨fun _ => ⟨trivial, ?_⟩, fun _ h => (by cases h)⟩
    exact no _ (fun q => hs q.1)
  have hs0 := hs
  obtain ⟨j, hj1, hj2, rfl⟩ := sT hm hs
  have h200 := hm.2.2.1
  have ej : (nI j).toNatClampNeg = j := nI_clamp (by omega)
  rw [if_pos hs0, ej]
  refine b_X8_failure_5.go C ⟨fun h => (by cases h), fun _ _ => ⟨trivial, ?_⟩⟩
  refine b_X8_failure_12.go C ⟨trivial, ?_⟩
  refine k_X8_failure_15.go C X (c_isWithin (d + 5) G z (nI 0) (nI 3)) (rest := []) rfl rfl rfl (fun h => absurd rfl h) (lb rfl) (Rq.of (by omega) (by decide) (Nat.zero_le _) (Nat.zero_le _)) ?_
  rintro r G9 ⟨h9, rfl⟩
  replace h9 := h9.symm
  subst h9
  refine b_X8_failure_18.go C ⟨fun h16 => ⟨trivial, ?_⟩, fun h16 => ⟨trivial, ?_⟩⟩
  rotate_left
  · rw [ej] at no
    exact no _ (fun q => wi_0 h16 q.2)
  have hz := wi_1 h16
  have hP : flP K (nI j) z := ⟨hs0, hz⟩
  clear no
  obtain ⟨e18, b18⟩ := h18 j hj1 hj2
  by_cases hf : K 18 j = 0
  · refine b_X8_failure_31.go C ⟨_, _, hR.st ⟨hj1, hj2⟩, stC_ci _, fun x h => absurd (show dec A 6 (K 18 j) = some x from h) (by rw [dec_0 hf]; exact fun q => by cases q), fun _ => ⟨trivial, ?_⟩⟩
    exact V_throw (own := RX8) (names := sNs) C X hl rfl ht hE s4 xf_S xf_n (xw_in _ (by simp)) (xw_in _ (by simp)) xw_S xn_S xc_S xg_S d_X8_failure_39 (show decode cX8_failure 42 = .ok (.dup, 1) by decide +kernel) d_X8_failure_43 d_X8_failure_45 d_X8_failure_48 (by show 2 + 3 < d + 6; omega) (by show 13 * (2 + 1) + 43 ≤ 40 * (d + 6); omega) (Nat.le_refl _) (Nat.le_refl _) (Or.inr (Or.inl ⟨hP, by rw [ej]; exact hf, rfl, rfl⟩))
  have hf1 : 1 ≤ nN K 18 j := by
    rcases Nat.eq_zero_or_pos (nN K 18 j) with q | q
    · exact absurd (by rw [e18, q, nI_0]) hf
    · exact q
  have hF := hR.2.2.2.1
  have ed : dec A 6 (K 18 j) = some (A 6 (nN K 18 j)) := dec_n e18 hf1 (by omega)
  refine b_X8_failure_31.go C ⟨_, _, hR.st ⟨hj1, hj2⟩, stC_ci _, fun _ _ => ⟨trivial, ?_⟩, fun h => absurd (show dec A 6 (K 18 j) = none from h) (by rw [ed]; exact fun q => by cases q)⟩
  refine b_X8_failure_49.go C ⟨_, _, hR.st ⟨hj1, hj2⟩, stC_ci _, trivial, ?_⟩
  show V p l e (RM (d + 6) 1 6) s m args below meth c Y (GA G s.heap.size) _ 56 G 0 0 [some (.inr (.inr (some (A 0 0)))), some (.inl (nI j)), some (.inl i), some (.inl z), some (.inr (.inr (some (A 1 j)))), none] [.inl i, .inr (.inr (dec A 6 (K 18 j))), .inr (.inr (some (A 0 0)))]
  rw [ed]
  refine k_X8_failure_56.go C X (k_walkTo (d + 4) G A n F K L (nN K 18 j) i hR ⟨hf1, b18⟩ hW (flE K i j) rfl) (rest := []) rfl rfl rfl (fun _ => ⟨_, _, _, rfl, hR.mn, by decide⟩) (lb rfl) (Rq.of (by omega) (by decide) (Nat.zero_le _) (Nat.zero_le _)) ?_
  rintro r G9 ⟨rfl, R9, hE2, W9⟩
  generalize hEE : flE K i j = E at *
  by_cases hi : E.1 55 E.2 = i
  rotate_left
  · rw [if_neg hi]
    refine b_X8_failure_59.go C ⟨fun _ h => (by cases h), fun _ => ⟨trivial, ?_⟩⟩
    exact V_throw (own := RX8) (names := sNs) C X hl rfl ht hE s5 xf_B xf_n (xw_in _ (by simp)) (xw_in _ (by simp)) xw_B xn_B xc_B xg_B d_X8_failure_66 (show decode cX8_failure 69 = .ok (.dup, 1) by decide +kernel) d_X8_failure_70 d_X8_failure_72 d_X8_failure_75 (by show 2 + 3 < d + 6; omega) (by show 13 * (2 + 1) + 43 ≤ 40 * (d + 6); omega) (Nat.le_refl _) (Nat.le_refl _) (Or.inr (Or.inr ⟨hP, by rw [ej]; exact hf, rfl, by rw [ej, hEE]; exact hi, by rw [ej, hEE]; exact R9, by rw [ej, hEE]; exact W9⟩))
  rw [if_pos hi]
  refine b_X8_failure_59.go C ⟨fun _ _ => ⟨trivial, ?_⟩, fun h => (by cases h)⟩
  have fin : ∀ {pc : Nat} {x : Int32} {lc : List (Option AV)}, decode cX8_failure pc = .ok (.ireturn, 1) → x = flV E z → V p l e (RM (d + 6) 1 6) s m args below meth c Y (GA G s.heap.size) (QMX below args s (RM (d + 6) 1 6) Y G (fun r G' => flP K (nI j) z ∧ ¬ K 18 j = 0 ∧ E.1 55 E.2 = i ∧ KR Y G' A n F E.1 L ∧ FW E.1 F ∧ r = some (.inl (flV E z))) (flX Y A n F K L (nI j) i z G)) pc G9 0 0 lc [.inl x] := by
    intro pc x lc hd hx
    exact V_x (V_iret C X hd (Nat.zero_le _) (Nat.zero_le _) ⟨hP, hf, hi, R9, W9, by rw [hx]⟩)
  obtain ⟨x, rfl, -, x3⟩ := nI_btw (by decide) (by decide) hz
  refine b_X8_failure_76.go C ⟨fun h26 => ⟨trivial, ?_⟩, fun y tgt hx2 ht2 => ⟨trivial, ?_⟩⟩
  · rw [nI_toInt (by omega)] at h26
    have : x = 3 := by omega
    subst this
    refine b_X8_failure_138.go C ⟨_, R9.fl hE2, trivial, ?_⟩
    exact fin d_X8_failure_143 (by unfold flV; rw [if_neg (by decide), if_neg (by decide), if_neg (by decide)])
  · rw [nI_toInt (by omega)] at hx2
    have hy : y = x := by omega
    subst hy
    rcases y with _ | _ | _ | y
    · cases ht2
      refine b_X8_failure_104.go C ⟨_, R9.fl hE2, trivial, ?_⟩
      exact fin d_X8_failure_109 (by unfold flV; rw [if_pos nI_0])
    · cases ht2
      refine b_X8_failure_110.go C ⟨_, R9.fl hE2, trivial, ?_⟩
      exact fin d_X8_failure_115 (by unfold flV; rw [if_neg (by decide), if_pos rfl])
    · cases ht2
      obtain ⟨-, -, -, ⟨b, b1, b2⟩, -⟩ := W9 E.2 hE2.1 hE2.2
      by_cases hb : E.1 58 E.2 = 0
      · refine b_X8_failure_116.go C ⟨_, R9.fl hE2, fun x h => absurd (show dec A 6 (E.1 58 E.2) = some x from h) (by rw [dec_0 hb]; exact fun q => by cases q), fun _ => ⟨trivial, ?_⟩⟩
        refine b_X8_failure_124.go C ⟨trivial, ?_⟩
        exact fin d_X8_failure_137 (by unfold flV; rw [if_neg (by decide), if_neg (by decide), if_pos rfl, if_pos hb])
      · have hb0 : 1 ≤ b := by
          rcases Nat.eq_zero_or_pos b with q | q
          · exact absurd (by rw [b2, q, nI_0]) hb
          · exact q
        have eb : dec A 6 (E.1 58 E.2) = some (A 6 b) := dec_n b2 hb0 (by omega)
        have nb : nN E.1 58 E.2 = b := nN_of b2 (by omega)
        refine b_X8_failure_116.go C ⟨_, R9.fl hE2, fun _ _ => ⟨trivial, ?_⟩, fun h => absurd (show dec A 6 (E.1 58 E.2) = none from h) (by rw [eb]; exact fun q => by cases q)⟩
        have hq := R9.fl hE2
        rw [eb] at hq
        refine b_X8_failure_129.go C ⟨_, hq, _, R9.fl ⟨hb0, b1⟩, trivial, ?_⟩
        exact fin d_X8_failure_137 (by unfold flV; rw [if_neg (by decide), if_neg (by decide), if_pos rfl, if_neg hb, nb])
    · cases ht2
end XAFS
