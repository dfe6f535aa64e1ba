/-! what is asked -/
section QRYS
variable {n k F w x y d wn : Nat} {K K1 K2 K' : MS} {L L1 L' : KL} {M M1 M' : MS} {t h c b : Nat}
theorem q_state (hS : Rst n k w F K L M) (v : Int32) : stateK K v = stateM M v := by
  obtain ⟨e0, e1, a1, e4, md, e2, em, hw⟩ := hS.n0
  have hR := hS.1
  have hI := hS.2.1
  unfold stateK stateM
  rw [e0, e1]
  by_cases h : nI 1 ≤ v ∧ v ≤ nI n
  · rw [if_pos h, if_pos h]
    obtain ⟨u, rfl, u1, u2⟩ := nI_btw (by decide) (by omega) h
    rw [nI_clamp (by omega), hR.nt 16 u rfl, (hR.d u u1 u2).1]
    have d1 := (hI.d u u1 u2).1
    unfold stt
    by_cases c8 : nN M 8 u = 0
    · rw [if_pos c8, if_neg (show ¬ ¬ M 8 u = 0 from fun z => z ((hI.nt.z rfl).mpr c8))]
      by_cases c2 : nN M 2 u < 9
      · rw [if_pos c2, if_neg (show ¬ nI 9 ≤ M 2 u from fun z => by have := (hI.nt.le rfl (by decide)).mp z; omega)]
      · rw [if_neg c2, if_pos ((hI.nt.le rfl (by decide)).mpr (by omega)), ← hI.nt 19 u rfl]
    · rw [if_neg c8, if_pos (fun z => c8 ((hI.nt.z rfl).mp z)), hI.nt 8 u rfl, nI_add]
  · rw [if_neg h, if_neg h]
theorem q_served (hS : Rst n k w F K L M) (v : Int32) : servedK K v = if nI 1 ≤ v ∧ v ≤ M 1 0 then nI (srvN M v.toNatClampNeg) else -1 := by
  obtain ⟨e0, e1, a1, e4, md, e2, em, hw⟩ := hS.n0
  have hR := hS.1
  unfold servedK
  rw [e0, e1]
  by_cases h : nI 1 ≤ v ∧ v ≤ nI n
  · rw [if_pos h, if_pos h]
    obtain ⟨u, rfl, u1, u2⟩ := nI_btw (by decide) (by omega) h
    rw [nI_clamp (by omega), hR.nt 22 u rfl, (hR.d u u1 u2).2.2.2.2.2.2]
  · rw [if_neg h, if_neg h]
theorem q_end (hS : Rst n k w F K L M) (v z : Int32) : endK K v z = endM M v z := by
  obtain ⟨e0, e1, a1, e4, md, e2, em, hw⟩ := hS.n0
  have hR := hS.1
  have hI := hS.2.1
  unfold endK endM
  rw [e0, e1]
  by_cases h : (nI 1 ≤ v ∧ v ≤ nI n) ∧ (nI 0 ≤ z ∧ z ≤ nI 1)
  · rw [if_pos h, if_pos h]
    obtain ⟨u, rfl, u1, u2⟩ := nI_btw (by decide) (by omega) h.1
    rw [nI_clamp (by omega)]
    have k := (hR.k16 hI u1 u2).1
    by_cases c8 : nN M 8 u = 0
    · rw [if_neg (fun z => (k.mp z) c8), if_pos ((hI.nt.z rfl).mpr c8)]
    · rw [if_pos (k.mpr c8), if_neg (fun z => c8 ((hI.nt.z rfl).mp z)), hR.nt 19 u rfl, hR.nt 20 u rfl, (hR.d u u1 u2).2.2.2.1, (hR.d u u1 u2).2.2.2.2.1, ← hI.nt 9 u rfl, ← hI.nt 10 u rfl]
  · rw [if_neg h, if_neg h]
theorem wk_iff (hS : Rst n k w F K L M) (v : Int32) : (wrkKB K v = true ↔ isWB M v = true) ∧ (isWB M v = true → ∃ u, v = nI u ∧ 1 ≤ u ∧ u ≤ n ∧ 9 ≤ nN M 2 u) := by
  obtain ⟨e0, e1, a1, e4, md, e2, em, hw⟩ := hS.n0
  have hR := hS.1
  have hI := hS.2.1
  have e : isWB M v = true ↔ (nI 1 ≤ v ∧ v ≤ nI n) ∧ nI 9 ≤ M 2 v.toNatClampNeg := by unfold isWB; rw [Bool.and_eq_true, decide_eq_true_iff, decide_eq_true_iff, e1]
  rw [e]
  constructor
  · unfold wrkKB
    rw [decide_eq_true_iff, e0]
    constructor
    · rintro ⟨h1, h2⟩
      refine ⟨h1, ?_⟩
      obtain ⟨u, rfl, u1, u2⟩ := nI_btw (by decide) (by omega) h1
      rw [nI_clamp (by omega)] at h2 ⊢
      exact (hI.nt.le rfl (by decide)).mpr ((isW_iff hR hI u1 u2).mp h2)
    · rintro ⟨h1, h2⟩
      refine ⟨h1, ?_⟩
      obtain ⟨u, rfl, u1, u2⟩ := nI_btw (by decide) (by omega) h1
      rw [nI_clamp (by omega)] at h2 ⊢
      exact (isW_iff hR hI u1 u2).mpr ((hI.nt.le rfl (by decide)).mp h2)
  · rintro ⟨h1, h2⟩
    obtain ⟨u, rfl, u1, u2⟩ := nI_btw (by decide) (by omega) h1
    rw [nI_clamp (by omega)] at h2
    exact ⟨u, rfl, u1, u2, (hI.nt.le rfl (by decide)).mp h2⟩
theorem q_work (hS : Rst n k w F K L M) (v z : Int32) : workK K v z = workM M v z := by
  have hR := hS.1
  have hI := hS.2.1
  have a1 := hI.a.1
  obtain ⟨e, e2⟩ := wk_iff hS v
  unfold workK workM
  by_cases h : isWB M v = true ∧ (nI 0 ≤ z ∧ z ≤ nI 3)
  · rw [if_pos h, if_pos ⟨e.mpr h.1, h.2⟩]
    obtain ⟨u, rfl, u1, u2, u9⟩ := e2 h.1
    rw [nI_clamp (by omega)]
    obtain ⟨⟨w1, w2, w3, w4, w5⟩, -⟩ := hR.w u u1 u2 u9
    rw [hR.nt 30 u rfl, hR.nt 27 u rfl, hR.nt 32 u rfl, w4, w2, w5, ← hI.nt 25 u rfl, ← hI.nt 21 u rfl, ← hI.nt 27 u rfl]
    have e29 : (if K 29 u = 0 then nI 0 else nI 1) = bI (decide (¬ M 26 u = 0)) := by
      have q : K 29 u = 0 ↔ M 26 u = 0 := by rw [hR.nt.z rfl, hI.nt.z rfl, w3]
      by_cases c : M 26 u = 0
      · rw [if_pos (q.mpr c), decide_eq_false (fun z => z c)]; rfl
      · rw [if_neg (fun z => c (q.mp z)), decide_eq_true c]; rfl
    rw [e29]
  · rw [if_neg h, if_neg (fun z => h ⟨e.mp z.1, z.2⟩)]
theorem q_pause (hS : Rst n k w F K L M) (v z : Int32) : pauseK K v z = pauseM M v z := by
  have hR := hS.1
  have hI := hS.2.1
  have a1 := hI.a.1
  obtain ⟨e, e2⟩ := wk_iff hS v
  unfold pauseK pauseM
  by_cases h1 : isWB M v = true
  · obtain ⟨u, rfl, u1, u2, u9⟩ := e2 h1
    rw [nI_clamp (by omega)]
    obtain ⟨⟨w1, w2, w3, w4, w5⟩, -, -, w6⟩ := hR.w u u1 u2 u9
    have e32 : K 32 u = M 27 u := by rw [hR.nt 32 u rfl, w5, ← hI.nt 27 u rfl]
    rw [e32]
    have d27 := (hI.d u u1 u2).2.1
    have s29 := (hI.s.2 u u1 u2).2.2.2.2.2.2.1
    by_cases h2 : nI 1 ≤ z ∧ z ≤ M 27 u
    · rw [if_pos ⟨e.mpr h1, h2⟩, if_pos ⟨h1, h2⟩]
      rw [hI.nt 27 u rfl] at h2
      obtain ⟨q, rfl, q1, q2⟩ := nI_btw (by decide) (by omega) h2
      rw [nI_clamp (by omega), hR.nt (2000 + u) _ (by unfold exK; exact decide_eq_false (by omega)), (w6 (q - 1) (by omega)).1, show 6 * u + (q - 1) = 6 * u + q - 1 by omega, ← hI.nt 28 _ rfl]
    · rw [if_neg (fun z => h2 z.2), if_neg (fun z => h2 z.2)]
  · rw [if_neg (fun z => h1 (e.mp z.1)), if_neg (fun z => h1 z.1)]
theorem q_cook (hS : Rst n k w F K L M) (v z : Int32) : cookKK K v z = cookM M v z := by
  have hR := hS.1
  have hI := hS.2.1
  obtain ⟨a1, a2, a3, a4, a5, a6, a7⟩ := hI.a
  have e1 : K 1 0 = nI k := by rw [hR.nt 1 0 rfl, hR.a.2.1]
  have e45 : M 45 0 = nI k := by rw [hI.nt 45 0 rfl, a6]
  unfold cookKK cookM
  rw [e1, e45]
  by_cases h : (nI 1 ≤ v ∧ v ≤ nI k) ∧ (nI 0 ≤ z ∧ z ≤ nI 3)
  · rw [if_pos h, if_pos h]
    obtain ⟨c, rfl, c1, c2⟩ := nI_btw (by decide) (by omega) h.1
    rw [nI_clamp (by omega)]
    obtain ⟨p1, p2, p3, p4⟩ := hR.upm hI c1 (show c ≤ 12 by omega)
    have pc := hR.p.2.2 c c1 c2
    rw [pc.1, pc.2, (hR.p.1 c c1 (by omega)).1, pl_len, ← hI.nt 47 c rfl, p1, p2]
    have el : (if upY M c = 0 then nI 0 else K 10 (upY M c)) = nI (upY M c) := by
      by_cases c0 : upY M c = 0
      · rw [if_pos c0, c0]
      · rw [if_neg c0, hR.nt 10 _ rfl, (hR.s _ (by omega) p4).1]
    rw [el]
  · rw [if_neg h, if_neg h]
theorem q_log (hS : Rst n k w F K L M) (v z : Int32) : logKK K v z = logM M v z := by
  have hR := hS.1
  have hI := hS.2.1
  have bd := hI.bd (by decide) (by decide)
  obtain ⟨j1, j2, j3⟩ := hR.j
  have e80 : K 80 0 = M 53 0 := by rw [hR.nt 80 0 rfl, j1, ← hI.nt 53 0 rfl]
  unfold logKK logM
  rw [e80]
  by_cases h : (nI 0 ≤ v ∧ v ≤ M 53 0 - nI 1) ∧ (nI 0 ≤ z ∧ z ≤ nI 2)
  · rw [if_pos h, if_pos h]
    obtain ⟨q, rfl, -, q2⟩ := nI_btw (by decide) (by decide) h.2
    have hv := h.1
    rw [hI.nt 53 0 rfl] at hv
    by_cases c0 : nN M 53 0 = 0
    · exfalso
      rw [c0] at hv
      have := Int32.le_trans hv.1 hv.2
      exact absurd this (by decide)
    · rw [nI_subN (by omega)] at hv
      obtain ⟨u, rfl, -, u2⟩ := nI_btw (by decide) (by omega) hv
      obtain ⟨g1, g2, g3⟩ := j3 u (by omega)
      rw [nI_clamp (by omega), nI_clamp (by omega)]
      have : q = 0 ∨ q = 1 ∨ q = 2 := by omega
      rcases this with rfl | rfl | rfl
      · rw [if_pos nI_0, Nat.add_zero, hR.nt 82 _ rfl, g1, ← hI.nt 50 u rfl]
      · rw [if_neg (by decide), if_pos rfl, hR.nt 82 _ rfl, g2, ← hI.nt 51 u rfl]
      · rw [if_neg (by decide), if_neg (by decide), hR.nt 82 _ rfl, g3, ← hI.nt 52 u rfl]
  · rw [if_neg h, if_neg h]
/-! changes of the plan, and a name for calling off -/
theorem Rst.pl (hS : Rst n k w F K L M) (NK : NT exK K') (NM : NT exM M') (oK : ∀ f, ¬ (70 ≤ f ∧ f ≤ 73) → K' f = K f) (oM : ∀ f, ¬ (41 ≤ f ∧ f ≤ 44) → M' f = M f) (hl : qL K' M') (hh : jH M') : Rst n k w F K' L M' ∧ Fx K K' := by
  obtain ⟨hR, hI, hN, h13, h17, hQ⟩ := hS
  have a1 := hI.a.1
  have els : ∀ f j, isLs f → K' f j = K f j := fun f j hf => by rw [oK f (by unfold isLs at hf; omega)]
  have e : ∀ f, ¬ (41 ≤ f ∧ f ≤ 44) → nN M' f = nN M f := fun f h => nN_e (oM f h)
  have epl : plM M' = plM M := funext (fun c => pl_e (oM 46 (by omega)) (oM 47 (by omega)))
  have I2 : Inv n k w 0 0 M' := by
    obtain ⟨h0, ⟨-, a2, a3, a4, a5, a6, a7⟩, h2, h3, h4, h5, h6, h7, h8, h9⟩ := hI
    refine ⟨NM, ⟨a1, a2, a3, a4, by rw [e 1 (by omega)]; exact a5, by rw [e 45 (by omega)]; exact a6, by rw [e 0 (by omega)]; exact a7⟩, ?_, ?_, ?_, ?_, ?_, ?_, ?_, hh⟩
    · show iS n _ _ _ _ _ _ _ _
      rw [e 2 (by omega), e 3 (by omega), e 4 (by omega), e 5 (by omega), e 7 (by omega), e 18 (by omega), e 29 (by omega), e 30 (by omega)]; exact h2
    · show iZ n _ _ _ _ _ _ _ _ _ _ _ _ _ _ _
      rw [e 4 (by omega), e 7 (by omega), e 8 (by omega), e 9 (by omega), e 10 (by omega), e 13 (by omega), e 21 (by omega), e 22 (by omega), e 25 (by omega), e 26 (by omega), e 27 (by omega), e 29 (by omega), e 30 (by omega), oM 14 (by omega), oM 11 (by omega)]; exact h3
    · show iD n 12 _ _ _ _ _ _ _ _
      rw [e 2 (by omega), e 8 (by omega), e 19 (by omega), e 21 (by omega), e 24 (by omega), e 25 (by omega), e 27 (by omega), e 29 (by omega)]; exact h4
    · show iE n _ _ _ _
      rw [e 16 (by omega), e 8 (by omega), e 10 (by omega), e 15 (by omega)]; exact h5
    · show iF n _ _ _ _ _ _ _ _ _ _ _
      rw [e 38 (by omega), e 40 (by omega), e 8 (by omega), e 12 (by omega), e 27 (by omega), e 31 (by omega), e 33 (by omega), e 36 (by omega), e 37 (by omega), e 39 (by omega), oM 35 (by omega)]; exact h6
    · show iB n _ _ _ _ _ _ _ _ _ _ _ _
      rw [e 16 (by omega), e 38 (by omega), e 40 (by omega), e 53 (by omega), e 2 (by omega), e 8 (by omega), e 19 (by omega), e 21 (by omega), e 24 (by omega), e 27 (by omega)]; exact h7
    · show iP n k _ _ _ _ _
      rw [e 2 (by omega), e 8 (by omega), e 19 (by omega), e 25 (by omega), epl]; exact h8
  have mo : ∀ (p : Nat → Bool), (∀ f, p f = true → ¬ (41 ≤ f ∧ f ≤ 44)) → ∀ f, p f = true → M' f = M f := fun p hp f hf => oM f (hp f hf)
  have ko : ∀ (p : Nat → Bool), (∀ f, p f = true → ¬ (70 ≤ f ∧ f ≤ 73)) → ∀ f, p f = true → K' f = K f := fun p hp f hf => oK f (hp f hf)
  have R2 : Rel n k F K' L M' := by
    obtain ⟨r1, r2, r3, r4, r5, r6, r7, r8, r9, r10, r11, r12⟩ := hR
    exact ⟨NK, r2.cg els, r3.cg (ko _ (fun f hf => by have := of_decide_eq_true hf; omega)) (mo _ (fun f hf => by have := of_decide_eq_true hf; omega)), r4.cg a1 (ko _ (fun f hf => by have := of_decide_eq_true hf; omega)) (mo _ (fun f hf => by have := of_decide_eq_true hf; omega)), r5.cg (ko _ (fun f hf => by have := of_decide_eq_true hf; omega)) (mo _ (fun f hf => by have := of_decide_eq_true hf; omega)), r6.cg a1 (ko _ (fun f hf => by have := of_decide_eq_true hf; omega)) (mo _ (fun f hf => by have := of_decide_eq_true hf; omega)), r7.cg (ko _ (fun f hf => by have := of_decide_eq_true hf; omega)) (mo _ (fun f hf => by have := of_decide_eq_true hf; omega)), r8.cg (fun c hc => lsL_e (by omega) els) (ko _ (fun f hf => by have := of_decide_eq_true hf; omega)) (mo _ (fun f hf => by have := of_decide_eq_true hf; omega)), hl, r10.cg (ko _ (fun f hf => by have := of_decide_eq_true hf; omega)) (mo _ (fun f hf => by have := of_decide_eq_true hf; omega)), r11.cg (mo _ (fun f hf => by have := of_decide_eq_true hf; omega)), r12.cg (oM 3 (by omega)) (oM 4 (by omega))⟩
  refine ⟨⟨R2, I2, fun u h1 h2 h3 => ?_, by rw [lsL_e (by decide) els]; exact h13, by rw [e 17 (by omega), e 16 (by omega)]; exact h17, fun u h1 h2 => (hQ u h1 h2).nw hR hI h1 h2 (fun f v h3 h4 h5 _ => by rw [oK f (by omega)]) (oK _ (by omega)) (oK 50 (by omega))⟩, fun g j hg => by rw [oK g (by omega)]⟩
  rw [e 8 (by omega)] at h3
  rw [e 13 (by omega), e 26 (by omega)]; exact hN u h1 h2 h3
theorem clp_step (hS : Rst n k w F K L M) (hX : FX wn K F) : K 70 0 = M 44 0 ∧ Rst n k w F (up2 K 70 0 (nI 0)) L (up2 M 44 0 (nI 0)) ∧ FX wn (up2 K 70 0 (nI 0)) F := by
  have hR := hS.1
  have hI := hS.2.1
  obtain ⟨r, fx⟩ := hS.pl (K' := up2 K 70 0 (nI 0)) (M' := up2 M 44 0 (nI 0)) (hR.nt.upn (by decide)) (hI.nt.upn (by decide)) (fun f h => up2_f (by omega)) (fun f h => up2_f (by omega)) ⟨by rw [nN_sn (by decide), nN_sn (by decide), vu_s, vu_s], fun j hj => by rw [nN_sn (by decide), vu_s] at hj; omega⟩ ⟨by rw [nN_sn (by decide), vu_s]; decide, fun i hi => by rw [nN_sn (by decide), vu_s] at hi; omega, fun i j _ hj => by rw [nN_sn (by decide), vu_s] at hj; omega⟩
  exact ⟨by rw [hR.nt 70 0 rfl, hR.l.1, ← hI.nt 44 0 rfl], r, hX.ot fx⟩
theorem pln_step (hS : Rst n k w F K L M) (hX : FX wn K F) (u v z : Int32) : plnKC K u v z = planC M u v z ∧ Rst n k w F (plnKK K u v z) L (planM M u v z) ∧ FX wn (plnKK K u v z) F := by
  have hR := hS.1
  have hI := hS.2.1
  obtain ⟨e0, e1, a1, e4, md, e2, em, hw⟩ := hS.n0
  obtain ⟨ew, ew2⟩ := wk_iff hS u
  have eP : plOkK K u v z = true ↔ (isWB M u = true ∧ (nI 1 ≤ v ∧ v ≤ nI 6) ∧ (nI 0 ≤ z ∧ z ≤ nI 15)) := by
    rw [← ew]
    unfold plOkK wrkKB
    rw [decide_eq_true_iff, decide_eq_true_iff]
    exact ⟨fun q => ⟨⟨q.1, q.2.1⟩, q.2.2⟩, fun q => ⟨q.1.1, q.1.2, q.2⟩⟩
  unfold plnKC planC plnKK planM
  by_cases h : isWB M u = true ∧ (nI 1 ≤ v ∧ v ≤ nI 6) ∧ (nI 0 ≤ z ∧ z ≤ nI 15)
  · rw [if_pos h, if_pos h, if_pos (eP.mpr h), if_pos (eP.mpr h)]
    obtain ⟨p, rfl, p1, p2, p9⟩ := ew2 h.1
    obtain ⟨q, rfl, q1, q2⟩ := nI_btw (by decide) (by decide) h.2.1
    obtain ⟨kd, rfl, -, k2⟩ := nI_btw (by decide) (by decide) h.2.2
    obtain ⟨l1, l2⟩ := hR.l
    obtain ⟨h1, h2, h3⟩ := hI.hh
    have r := pln_prow (M := M) (fw := K 71) (ft := K 72) (a := nI p) (b := nI q) (u := nI p) (v := nI q) (nN M 44 0) (fun i hi => by
      have g := l2 i hi
      rw [hR.nt 71 i rfl, hR.nt 72 i rfl, g.1, g.2.1, ← hI.nt 41 i rfl, ← hI.nt 42 i rfl]) (fun i j hij hj ⟨⟨c1, c2⟩, c3, c4⟩ => h3 i j hij hj ⟨(hI.nt.e2 rfl rfl).mp (c1.trans c3.symm), (hI.nt.e2 rfl rfl).mp (c2.trans c4.symm)⟩) (nN M 44 0) 0 (-1) (by omega)
    have eprw : prwK K (nI p) (nI q) = prow (K 71) (K 72) (nI p) (nI q) (nN M 44 0) 0 := by unfold prwK; rw [l1]
    have epl : plnM M (nI p) (nI q) = if prwK K (nI p) (nI q) < nN M 44 0 then nI (prwK K (nI p) (nI q)) else -1 := by
      unfold plnM; rw [r.2.2, eprw, Nat.zero_add]
    have hle : prwK K (nI p) (nI q) ≤ nN M 44 0 := by rw [eprw]; have := r.2.1; omega
    have sec : prwK K (nI p) (nI q) < nN M 44 0 → nN M 41 (prwK K (nI p) (nI q)) = p ∧ nN M 42 (prwK K (nI p) (nI q)) = q := by
      have key : ∀ (m i : Nat), prow (K 71) (K 72) (nI p) (nI q) m i < i + m → K 71 (prow (K 71) (K 72) (nI p) (nI q) m i) = nI p ∧ K 72 (prow (K 71) (K 72) (nI p) (nI q) m i) = nI q := by
        intro m
        induction m with
        | zero => intro i z; rw [prow] at z; omega
        | succ m ih =>
          intro i z
          rw [prow] at z ⊢
          by_cases c2 : K 71 i = nI p ∧ K 72 i = nI q
          · rw [if_pos c2]; exact c2
          · rw [if_neg c2] at z ⊢; exact ih (i + 1) (by omega)
      intro hlt
      have g := l2 _ hlt
      have g2 := key (nN M 44 0) 0 (by rw [← eprw]; omega)
      rw [← eprw] at g2
      exact ⟨by rw [← g.1]; exact (hR.nt.eq rfl (by omega)).mp g2.1, by rw [← g.2.1]; exact (hR.nt.eq rfl (by omega)).mp g2.2⟩
    have enone : ∀ i, i < nN M 44 0 → i < prwK K (nI p) (nI q) → ¬ (nN M 41 i = p ∧ nN M 42 i = q) := by
      have key : ∀ (m i j : Nat), i ≤ j → j < prow (K 71) (K 72) (nI p) (nI q) m i → ¬ (K 71 j = nI p ∧ K 72 j = nI q) := by
        intro m
        induction m with
        | zero => intro i j z1 z2; rw [prow] at z2; omega
        | succ m ih =>
          intro i j z1 z2
          rw [prow] at z2
          by_cases c2 : K 71 i = nI p ∧ K 72 i = nI q
          · rw [if_pos c2] at z2; omega
          · rw [if_neg c2] at z2
            by_cases c3 : j = i
            · subst c3; exact c2
            · exact ih (i + 1) j (by omega) z2
      intro i hi hlt ⟨g1, g2⟩
      have g := l2 i hi
      rw [eprw] at hlt
      exact key (nN M 44 0) 0 i (Nat.zero_le _) hlt ⟨by rw [hR.nt 71 i rfl, g.1, g1], by rw [hR.nt 72 i rfl, g.2.1, g2]⟩
    generalize hP : prwK K (nI p) (nI q) = P at *
    have eR : plnR M (nI p) (nI q) = P := by
      unfold plnR
      rw [epl]
      by_cases c : P < nN M 44 0
      · rw [if_pos c, if_neg (nI_ne_m1 (by omega)), nI_clamp (by omega)]
      · rw [if_neg c, if_pos rfl]; omega
    have e44 : M 44 0 = nI (nN M 44 0) := hI.nt 44 0 rfl
    have full : (plnM M (nI p) (nI q) = -1 ∧ M 44 0 = nI 64) ↔ ¬ P < 64 := by
      rw [epl, e44, nI_eq (by omega) (by decide)]
      by_cases c : P < nN M 44 0
      · rw [if_pos c]; exact ⟨fun z => absurd z.1 (nI_ne_m1 (by omega)), fun z => by omega⟩
      · rw [if_neg c]; exact ⟨fun z => by omega, fun z => ⟨rfl, by omega⟩⟩
    unfold putB putK
    rw [hP, eR]
    by_cases c64 : P < 64
    · rw [if_pos (decide_eq_true c64), if_pos c64, if_neg (fun z => (full.mp z) c64), if_neg (fun z => (full.mp z) c64)]
      have emx : nI (max (nN K 70 0) (P + 1)) = if P = nN M 44 0 then nI (nN M 44 0 + 1) else M 44 0 := by
        rw [l1]
        by_cases c : P = nN M 44 0
        · rw [if_pos c, show max (nN M 44 0) (P + 1) = nN M 44 0 + 1 by omega]
        · rw [if_neg c, show max (nN M 44 0) (P + 1) = nN M 44 0 by omega, ← e44]
      have emx2 : nI (max (nN M 44 0) (P + 1)) = if P = nN M 44 0 then nI (nN M 44 0 + 1) else M 44 0 := by rw [← emx, l1]
      rw [← emx2, l1]
      have hm64 : max (nN M 44 0) (P + 1) ≤ 64 := by omega
      generalize hQ : max (nN M 44 0) (P + 1) = Q at *
      have NK : NT exK (up2 (up2 (up2 (up2 K 71 P (nI p)) 72 P (nI q)) 73 P (nI kd)) 70 0 (nI Q)) := (((hR.nt.upn (by omega)).upn (by omega)).upn (by omega)).upn (by omega)
      have NM : NT exM (up2 (up2 (up2 (up2 M 44 0 (nI Q)) 41 P (nI p)) 42 P (nI q)) 43 P (nI kd)) := (((hI.nt.upn (by omega)).upn (by omega)).upn (by omega)).upn (by omega)
      have k70 : nN (up2 (up2 (up2 (up2 K 71 P (nI p)) 72 P (nI q)) 73 P (nI kd)) 70 0 (nI Q)) 70 0 = Q := by rw [nN_sn (by omega), vu_s]
      have m44 : nN (up2 (up2 (up2 (up2 M 44 0 (nI Q)) 41 P (nI p)) 42 P (nI q)) 43 P (nI kd)) 44 0 = Q := by rw [nN_f (by decide), nN_f (by decide), nN_f (by decide), nN_sn (by omega), vu_s]
      have m41 : nN (up2 (up2 (up2 (up2 M 44 0 (nI Q)) 41 P (nI p)) 42 P (nI q)) 43 P (nI kd)) 41 = va_up (nN M 41) P p := by rw [nN_f (by decide), nN_f (by decide), nN_sn (by omega), nN_f (by decide)]
      have m42 : nN (up2 (up2 (up2 (up2 M 44 0 (nI Q)) 41 P (nI p)) 42 P (nI q)) 43 P (nI kd)) 42 = va_up (nN M 42) P q := by rw [nN_f (by decide), nN_sn (by omega), nN_f (by decide), nN_f (by decide)]
      have m43 : nN (up2 (up2 (up2 (up2 M 44 0 (nI Q)) 41 P (nI p)) 42 P (nI q)) 43 P (nI kd)) 43 = va_up (nN M 43) P kd := by rw [nN_sn (by omega), nN_f (by decide), nN_f (by decide), nN_f (by decide)]
      have k71 : nN (up2 (up2 (up2 (up2 K 71 P (nI p)) 72 P (nI q)) 73 P (nI kd)) 70 0 (nI Q)) 71 = va_up (nN K 71) P p := by rw [nN_f (by decide), nN_f (by decide), nN_f (by decide), nN_sn (by omega)]
      have k72 : nN (up2 (up2 (up2 (up2 K 71 P (nI p)) 72 P (nI q)) 73 P (nI kd)) 70 0 (nI Q)) 72 = va_up (nN K 72) P q := by rw [nN_f (by decide), nN_f (by decide), nN_sn (by omega), nN_f (by decide)]
      have k73 : nN (up2 (up2 (up2 (up2 K 71 P (nI p)) 72 P (nI q)) 73 P (nI kd)) 70 0 (nI Q)) 73 = va_up (nN K 73) P kd := by rw [nN_f (by decide), nN_sn (by omega), nN_f (by decide), nN_f (by decide)]
      have hlt : ∀ i, i < Q → i ≠ P → i < nN M 44 0 := fun i hi hne => by omega
      obtain ⟨S2, fx⟩ := hS.pl NK NM (fun f h => by rw [up2_f (by omega), up2_f (by omega), up2_f (by omega), up2_f (by omega)]) (fun f h => by rw [up2_f (by omega), up2_f (by omega), up2_f (by omega), up2_f (by omega)]) ⟨by rw [k70, m44], fun j hj => by
        rw [m44] at hj
        rw [k71, k72, k73, m41, m42, m43]
        by_cases c : j = P
        · subst c; rw [vu_s, vu_s, vu_s, vu_s, vu_s, vu_s]; exact ⟨rfl, rfl, rfl⟩
        · rw [vu_n c, vu_n c, vu_n c, vu_n c, vu_n c, vu_n c]; exact l2 j (hlt j hj c)⟩ ⟨by rw [m44]; exact hm64, fun i hi => by
        rw [m44] at hi
        rw [m43]
        by_cases c : i = P
        · subst c; rw [vu_s]; exact k2
        · rw [vu_n c]; exact h2 i (hlt i hi c), fun i j hij hj => by
        rw [m44] at hj
        rw [m41, m42]
        rintro ⟨g1, g2⟩
        by_cases ci : i = P
        · subst ci
          rw [vu_s, vu_n (by omega)] at g1 g2
          have hj' := hlt j hj (by omega)
          by_cases cl : i < nN M 44 0
          · have s := sec cl
            exact h3 i j hij hj' ⟨by omega, by omega⟩
          · omega
        · by_cases cj : j = P
          · subst cj
            rw [vu_s, vu_n ci] at g1 g2
            have hi' := hlt i (by omega) ci
            exact enone i hi' hij ⟨g1, g2⟩
          · rw [vu_n ci, vu_n cj] at g1 g2
            exact h3 i j hij (hlt j hj cj) ⟨g1, g2⟩⟩
      exact ⟨by rw [up2_s], S2, hX.ot fx⟩
    · rw [if_neg (fun z => c64 (of_decide_eq_true z)), if_neg c64, if_pos (full.mpr c64), if_pos (full.mpr c64)]
      exact ⟨rfl, hS, hX⟩
  · rw [if_neg h, if_neg h, if_neg (fun z => h (eP.mp z)), if_neg (fun z => h (eP.mp z))]
    exact ⟨rfl, hS, hX⟩
end QRYS
