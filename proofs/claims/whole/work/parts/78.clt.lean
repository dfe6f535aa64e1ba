/-! the class: turnToCooks, countIdle -/
section CLT
variable {l : Launch} {Y : YT}
theorem rt_le {K : MS} {n F c : Nat} {L : KL} (hok : rtOk K n F c) (hn : n ≤ 201) (hc : 1 ≤ c ∧ c ≤ 12) (hj2 : jrOk (rtR K (upmK K c))) : PhK (rtK K F L c) (rtF K F c) ≤ PhK K F := by
  obtain ⟨hL, hj, hrd, hF, hpl, hrw⟩ := hok
  unfold rtK rtF
  by_cases h0 : upmK K c = 0
  · rw [if_pos h0, if_pos h0]
    by_cases hu : chsK K L 0 = 0
    · rw [if_pos hu]; exact Nat.le_refl _
    · rw [if_neg hu]
      have := tk_le (F := F) (c := c) hL hn hc.2 (chs_in hrd hu).2.1 hj
      omega
  · rw [if_neg h0, if_neg h0]
    by_cases h3 : K 16 (upmK K c) = nI 3
    · rw [if_pos h3, if_pos h3]
      by_cases h5 : nI 5 ≤ K 16 (iK K (upmK K c) 0)
      · rw [if_pos h5, if_pos h5]
        have h1 : jcK K + PhK (rtR K (upmK K c)) F ≤ PhK K F := PhK_jrn hj
        have h2 := mt_le (K := rtR K (upmK K c)) (F := F) (i := upmK K c) hj2 hF
        omega
      · rw [if_neg h5, if_neg h5]
        by_cases hu : chsK K L (iK K (upmK K c) 0) = 0
        · rw [if_pos hu]; exact Nat.le_refl _
        · rw [if_neg hu]
          have hle := tk_le (F := F) (K := rtH K c) (c := c) (u := chsK K L (iK K (upmK K c) 0)) (n := n) (hL.up _ (nls (by decide))) hn hc.2 (chs_in hrd hu).2.1 hj
          have hph : PhK (rtH K c) F = PhK K F := PhK_up (by decide) (by decide) (nls (by decide))
          omega
    · rw [if_neg h3, if_neg h3]; exact Nat.le_refl _
def tcF (n c : Nat) : Nat → S3 → S3
  | 0, S => S
  | q + 1, S => if rtE S.1 S.2.1 c = 0 then (rtK S.1 S.2.1 S.2.2 c, rtF S.1 S.2.1 c, rtL S.1 S.2.2 c) else tcF n c q (conT n (rtK S.1 S.2.1 S.2.2 c, rtF S.1 S.2.1 c, rtL S.1 S.2.2 c) (rtE S.1 S.2.1 c))
def tcS (n : Nat) (S : S3) (c : Nat) : S3 := tcF n c 201 S
/-- what a cook's turn keeps -/
def TcP (n k : Nat) (I : MS → Nat → KL → Prop) : Prop := k ≤ 12 ∧ ∀ K F L, I K F L → K 1 0 = nI k ∧ ∀ c, lsL K 13 = [] → 1 ≤ c → c ≤ k → rtOk K n F c ∧ jrOk (rtR K (upmK K c)) ∧ lsL (rtK K F L c) 13 = [] ∧ (rtE K F c = 0 → I (rtK K F L c) (rtF K F c) (rtL K L c)) ∧ (rtE K F c ≠ 0 → (1 ≤ rtE K F c ∧ rtE K F c ≤ n) ∧ PeOk n (rtK K F L c) (rtE K F c) ∧ I (nteK (rtK K F L c) (rtE K F c)) (rtF K F c) (rtL K L c))
theorem tc_ok {n k : Nat} {I : MS → Nat → KL → Prop} (hP : EnP n I) (hQ : TcP n k I) {c : Nat} (hc : 1 ≤ c ∧ c ≤ k) : ∀ (q : Nat) (S : S3), JS I S → JS I (tcF n c q S) ∧ PhK (tcF n c q S).1 (tcF n c q S).2.1 ≤ PhK S.1 S.2.1
  | 0, S, hJ => ⟨hJ, Nat.le_refl _⟩
  | q + 1, (K, F, L), hJ => by
    have hJ1 : I K F L := hJ.1
    have hC := ((hP.1 L).1 F).1 K hJ1
    obtain ⟨q1, q2, q3, q4, q5⟩ := (hQ.2 K F L hJ1).2 c hJ.2 hc.1 hc.2
    have hle := rt_le (L := L) q1 (by have := hC.1; omega) ⟨hc.1, by have := hQ.1; omega⟩ q2
    rw [tcF]
    by_cases he : rtE K F c = 0
    · rw [if_pos he]
      exact ⟨⟨q4 he, q3⟩, hle⟩
    · rw [if_neg he]
      obtain ⟨p1, p2, p3⟩ := q5 he
      obtain ⟨a1, a2⟩ := con_J hP (L := rtL K L c) p1 p2 p3
      obtain ⟨b1, b2⟩ := tc_ok hP hQ hc q (conT n (rtK K F L c, rtF K F c, rtL K L c) (rtE K F c)) a1
      exact ⟨b1, Nat.le_trans b2 (Nat.le_trans a2 hle)⟩
theorem tc_st {n k : Nat} {I : MS → Nat → KL → Prop} (hP : EnP n I) (hQ : TcP n k I) (S : S3) (t : Nat) (hJ : JS I S) (h1 : 1 ≤ t) (h2 : t ≤ k) : JS I (tcS n S t) ∧ PhK (tcS n S t).1 (tcS n S t).2.1 ≤ PhK S.1 S.2.1 := tc_ok hP hQ ⟨h1, h2⟩ 201 S hJ
set_option maxHeartbeats 4000000 in
theorem k_turnToCooks (d : Nat) (G : GH) (A : AS) (n k F : Nat) (K : MS) (L : KL) (I : MS → Nat → KL → Prop) (hP : EnP n I) (hQ : TcP n k I) (hR : KR Y G A n F K L) (hJ : JS I (K, F, L)) (E : S3) (hE : E = lpF (tcS n) k 1 (K, F, L)) : Cd l yX8_turnToCooks cX8_turnToCooks 5 none (d + 10) (PhK K F - PhK E.1 E.2.1) (PhK K F - PhK E.1 E.2.1) Y [.inr (.inr (some (A 0 0)))] G (fun r G' => r = none ∧ ∃ A', KR Y G' A' n E.2.1 E.1 E.2.2 ∧ AK A A') := by
  refine Ct.of (ini := False) (by decide +kernel) False.elim rfl (Nat.le_of_ble_eq_true rfl) ?_
  intro p e s m args below meth c C X
  have hk := hQ.1
  generalize hT : PhK K F = T at *
  have lp : ∀ (q j : Nat) (G1 : GH) (A1 : AS) (K1 : MS) (F1 : Nat) (L1 : KL) (o2 o3 o4 : Option AV), j + q = k → KR Y G1 A1 n F1 K1 L1 → AK A A1 → JS I (K1, F1, L1) → PhK K1 F1 ≤ T → E = lpF (tcS n) q (j + 1) (K1, F1, L1) → V p l e (RM (d + 10) (T - PhK E.1 E.2.1) (T - PhK E.1 E.2.1)) s m args below meth c Y (GA G s.heap.size) (QM below args s (RM (d + 10) (T - PhK E.1 E.2.1) (T - PhK E.1 E.2.1)) Y G (fun r G' => r = none ∧ ∃ A', KR Y G' A' n E.2.1 E.1 E.2.2 ∧ AK A A')) 2 G1 (T - PhK K1 F1) (T - PhK K1 F1) [some (.inr (.inr (some (A1 0 0)))), some (.inl (nI j)), o2, o3, o4] [] := by
    intro q
    induction q with
    | zero =>
      intro j G1 A1 K1 F1 L1 o2 o3 o4 hj R1 hA h1 hph hs
      rw [lpF] at hs
      have e0K : K1 1 0 = nI k := (hQ.2 K1 F1 L1 h1.1).1
      refine b_X8_turnToCooks_2.go C ⟨_, R1.mn, fun _ => ⟨trivial, ?_⟩, fun h => absurd (show K1 1 0 ≤ nI j by rw [e0K]; exact nI_le (by omega) (by omega)) h⟩
      have e1 : E.1 = K1 := by rw [hs]
      have e2 : E.2.1 = F1 := by rw [hs]
      have e3 : E.2.2 = L1 := by rw [hs]
      rw [e1, e2, e3]
      exact V_vret C X d_X8_turnToCooks_65 (Nat.le_refl _) (Nat.le_refl _) ⟨rfl, A1, R1, hA⟩
    | succ q ih =>
      intro j G1 A1 K1 F1 L1 o2 o3 o4 hj R1 hA h1 hph hs
      rw [lpF] at hs
      have e0K : K1 1 0 = nI k := (hQ.2 K1 F1 L1 h1.1).1
      have nx : ∀ (K2 : MS) (F2 : Nat) (L2 : KL) (G3 : GH) (A3 : AS) (a b : Nat) (x2 x3 x4 : Option AV), JS I (K2, F2, L2) → PhK K2 F2 ≤ T → E = lpF (tcS n) q (j + 1 + 1) (K2, F2, L2) → KR Y G3 A3 n F2 K2 L2 → AK A A3 → a ≤ T - PhK K2 F2 → b ≤ T - PhK K2 F2 → V p l e (RM (d + 10) (T - PhK E.1 E.2.1) (T - PhK E.1 E.2.1)) s m args below meth c Y (GA G s.heap.size) (QM below args s (RM (d + 10) (T - PhK E.1 E.2.1) (T - PhK E.1 E.2.1)) Y G (fun r G' => r = none ∧ ∃ A', KR Y G' A' n E.2.1 E.1 E.2.2 ∧ AK A A')) 59 G3 a b [some (.inr (.inr (some (A3 0 0)))), some (.inl (nI j)), x2, x3, x4] [] := by
        intro K2 F2 L2 G3 A3 a b x2 x3 x4 g1 g2 hs3 g3 g4 g8 g9
        refine V.widen g8 g9 ?_
        refine b_X8_turnToCooks_59.go C ⟨_, nI_1 _, trivial, ?_⟩
        exact ih (j + 1) G3 A3 K2 F2 L2 x2 x3 x4 (by omega) g3 g4 g1 g2 hs3
      refine b_X8_turnToCooks_2.go C ⟨_, R1.mn, fun h => absurd (show nI k ≤ nI j by rw [← e0K]; exact h) (fun z => by have := (nI_leI (by omega) (by omega)).mp z; omega), fun _ => ⟨trivial, ?_⟩⟩
      refine b_X8_turnToCooks_10.go C ⟨trivial, ?_⟩
      refine (show ∀ (q2 ac : Nat) (G2 : GH) (A2 : AS) (K2 : MS) (F2 : Nat) (L2 : KL) (x4 : Option AV), ac + q2 = 201 → KR Y G2 A2 n F2 K2 L2 → AK A A2 → JS I (K2, F2, L2) → PhK K2 F2 ≤ T → E = lpF (tcS n) q (j + 1 + 1) (tcF n (j + 1) q2 (K2, F2, L2)) → V p l e (RM (d + 10) (T - PhK E.1 E.2.1) (T - PhK E.1 E.2.1)) s m args below meth c Y (GA G s.heap.size) (QM below args s (RM (d + 10) (T - PhK E.1 E.2.1) (T - PhK E.1 E.2.1)) Y G (fun r G' => r = none ∧ ∃ A', KR Y G' A' n E.2.1 E.1 E.2.2 ∧ AK A A')) 14 G2 (T - PhK K2 F2) (T - PhK K2 F2) [some (.inr (.inr (some (A2 0 0)))), some (.inl (nI j)), some (.inl (nI 0)), some (.inl (nI ac)), x4] [] from ?_) 201 0 G1 A1 K1 F1 L1 _ (by omega) R1 hA h1 hph hs
      intro q2
      induction q2 with
      | zero =>
        intro ac G2 A2 K2 F2 L2 x4 hac R2 hA2 h2 hph2 hs2
        rw [tcF] at hs2
        refine b_X8_turnToCooks_14.go C ⟨fun _ => ⟨trivial, ?_⟩, fun h => absurd (nI_lt (by omega) (by omega)) h⟩
        exact nx K2 F2 L2 G2 A2 _ _ _ _ _ h2 hph2 hs2 R2 hA2 (Nat.le_refl _) (Nat.le_refl _)
      | succ q2 ih2 =>
        intro ac G2 A2 K2 F2 L2 x4 hac R2 hA2 h2 hph2 hs2
        have hJ2 : I K2 F2 L2 := h2.1
        have hC := ((hP.1 L2).1 F2).1 K2 hJ2
        have hn := hC.1
        have hEr : PhK E.1 E.2.1 ≤ PhK (tcF n (j + 1) (q2 + 1) (K2, F2, L2)).1 (tcF n (j + 1) (q2 + 1) (K2, F2, L2)).2.1 := by
          rw [hs2]
          exact (lp_ok (n := k) (J := JS I) (tc_st hP hQ) q (j + 1 + 1) (tcF n (j + 1) (q2 + 1) (K2, F2, L2)) (tc_ok hP hQ ⟨by omega, by omega⟩ (q2 + 1) (K2, F2, L2) h2).1 (by omega) (by omega)).2
        obtain ⟨q1, q3, q4, q5, q6⟩ := (hQ.2 K2 F2 L2 hJ2).2 (j + 1) h2.2 (by omega) (by omega)
        have hle := rt_le (L := L2) q1 (by omega) ⟨by omega, by omega⟩ q3
        have kr := k_resumeOrTake (l := l) (d + 1) G2 A2 n F2 K2 L2 (j + 1) R2 ⟨by omega, by omega⟩ q1 q3
        rw [tcF] at hs2 hEr
        have hs2 : E = lpF (tcS n) q (j + 1 + 1) (if rtE K2 F2 (j + 1) = 0 then (rtK K2 F2 L2 (j + 1), rtF K2 F2 (j + 1), rtL K2 L2 (j + 1)) else tcF n (j + 1) q2 (conT n (rtK K2 F2 L2 (j + 1), rtF K2 F2 (j + 1), rtL K2 L2 (j + 1)) (rtE K2 F2 (j + 1)))) := hs2
        have hEr : PhK E.1 E.2.1 ≤ PhK (if rtE K2 F2 (j + 1) = 0 then (rtK K2 F2 L2 (j + 1), rtF K2 F2 (j + 1), rtL K2 L2 (j + 1)) else tcF n (j + 1) q2 (conT n (rtK K2 F2 L2 (j + 1), rtF K2 F2 (j + 1), rtL K2 L2 (j + 1)) (rtE K2 F2 (j + 1)))).1 (if rtE K2 F2 (j + 1) = 0 then (rtK K2 F2 L2 (j + 1), rtF K2 F2 (j + 1), rtL K2 L2 (j + 1)) else tcF n (j + 1) q2 (conT n (rtK K2 F2 L2 (j + 1), rtF K2 F2 (j + 1), rtL K2 L2 (j + 1)) (rtE K2 F2 (j + 1)))).2.1 := hEr
        generalize rtK K2 F2 L2 (j + 1) = K3 at *
        generalize rtF K2 F2 (j + 1) = F3 at *
        generalize rtL K2 L2 (j + 1) = L3 at *
        generalize rtE K2 F2 (j + 1) = e3 at *
        refine b_X8_turnToCooks_14.go C ⟨fun h => absurd h (nI_nlt (by omega) (by omega)), fun _ => ⟨trivial, ?_⟩⟩
        refine b_X8_turnToCooks_21.go C ⟨fun h => absurd nI_0 h, fun _ => ⟨trivial, ?_⟩⟩
        refine b_X8_turnToCooks_25.go C ⟨_, R2.mn, _, _, R2.cr, j, rfl, by omega, lb rfl, _, rfl, trivial, ?_⟩
        by_cases he : e3 = 0
        · rw [if_pos he] at hs2 hEr
          have hEr : PhK E.1 E.2.1 ≤ PhK K3 F3 := hEr
          refine k_X8_turnToCooks_32.go C X kr (rest := []) rfl rfl rfl (fun _ => ⟨_, _, _, rfl, R2.mn, by decide⟩) (lb rfl) (Rq.of (by omega) (by decide) (by show _ ≤ T - PhK E.1 E.2.1; omega) (by show _ ≤ T - PhK E.1 E.2.1; omega)) ?_
          rintro r G9 ⟨A3, R3, hA3, rfl⟩
          rw [he, ← hA3.kt]
          refine b_X8_turnToCooks_35.go C ⟨fun _ h => (by cases h), fun _ => ⟨trivial, ?_⟩⟩
          refine b_X8_turnToCooks_42.go C ⟨trivial, ?_⟩
          refine b_X8_turnToCooks_53.go C ⟨_, nI_1 _, trivial, ?_⟩
          have fin := nx K3 F3 L3 G9 A3 (T - PhK K2 F2 + (PhK K2 F2 - PhK K3 F3)) (T - PhK K2 F2 + (PhK K2 F2 - PhK K3 F3)) (some (.inl (nI 1))) (some (.inl (nI (ac + 1)))) (some (.inr (.inr none))) ⟨q5 he, q4⟩ (by omega) hs2 R3 (hA2.tr hA3) (by omega) (by omega)
          by_cases h200 : 200 < ac + 1
          · refine b_X8_turnToCooks_14.go C ⟨fun _ => ⟨trivial, fin⟩, fun h => absurd (nI_lt (by omega) (by omega)) h⟩
          · refine b_X8_turnToCooks_14.go C ⟨fun h => absurd h (nI_nlt (by omega) (by omega)), fun _ => ⟨trivial, ?_⟩⟩
            exact b_X8_turnToCooks_21.go C ⟨fun _ => ⟨trivial, fin⟩, fun h => absurd h (by decide +kernel)⟩
        · rw [if_neg he] at hs2 hEr
          obtain ⟨p0, ⟨p1, p2, p3, p4, e0, p5, p6⟩, hIp⟩ := q6 he
          have hcl := (con_ok (hP.1 L3) (fun K F h => hP.2.1 K F L3 h) p0 (by omega) p2 p3 p4 p5 p6 hIp).2
          have hcJ := (con_J hP (L := L3) p0 ⟨p1, p2, p3, p4, e0, p5, p6⟩ hIp).1
          have hEr2 : PhK E.1 E.2.1 ≤ PhK (conT n (K3, F3, L3) e3).1 (conT n (K3, F3, L3) e3).2.1 := Nat.le_trans hEr (tc_ok hP hQ ⟨by omega, by omega⟩ q2 (conT n (K3, F3, L3) e3) hcJ).2
          unfold conT at hs2 hEr2 hcJ
          generalize hZ : conS n (K3, F3) e3 = Z at *
          obtain ⟨KZ, FZ⟩ := Z
          have hcl : PhK KZ FZ ≤ PhK K3 F3 := hcl
          have hEr2 : PhK E.1 E.2.1 ≤ PhK KZ FZ := hEr2
          refine k_X8_turnToCooks_32.go C X kr (rest := []) rfl rfl rfl (fun _ => ⟨_, _, _, rfl, R2.mn, by decide⟩) (lb rfl) (Rq.of (by omega) (by decide) (by show _ ≤ T - PhK E.1 E.2.1; omega) (by show _ ≤ T - PhK E.1 E.2.1; omega)) ?_
          rintro r G9 ⟨A3, R3, hA3, rfl⟩
          rw [opS_s he, ← hA3.kt, ← hA3.sg e3]
          refine b_X8_turnToCooks_35.go C ⟨fun _ _ => ⟨trivial, ?_⟩, fun h => by cases h⟩
          refine b_X8_turnToCooks_47.go C ⟨trivial, ?_⟩
          have kc := k_conclude (l := l) d G9 A3 n F3 K3 L3 e3 e0 (fun K F => I K F L3) (hP.1 L3) R3 p0 p1 p2 p3 p4 p5 p6 hIp
          rw [hZ] at kc
          have kc : Cd l yX8_conclude cX8_conclude 5 none (d + 9) (PhK K3 F3 - PhK KZ FZ) (PhK K3 F3 - PhK KZ FZ) Y [.inr (.inr (some (A3 0 0))), .inr (.inr (some (A3 1 e3)))] G9 (fun r G' => r = none ∧ ∃ A', KR Y G' A' n FZ KZ L3 ∧ AK A3 A') := kc
          refine k_X8_turnToCooks_50.go C X kc (rest := []) rfl rfl rfl (fun _ => ⟨_, _, _, rfl, R3.mn, by decide⟩) (lb rfl) (Rq.of (by omega) (by decide) (by show _ ≤ T - PhK E.1 E.2.1; omega) (by show _ ≤ T - PhK E.1 E.2.1; omega)) ?_
          rintro r G8 ⟨rfl, A4, R4, hA4⟩
          rw [← hA4.kt, ← hA4.sg e3]
          refine b_X8_turnToCooks_53.go C ⟨_, nI_1 _, trivial, ?_⟩
          refine V.widen (n' := T - PhK KZ FZ) (k' := T - PhK KZ FZ) (by omega) (by omega) ?_
          exact ih2 (ac + 1) G8 A4 KZ FZ L3 _ (by omega) R4 ((hA2.tr hA3).tr hA4) hcJ (by omega) hs2
  refine b_X8_turnToCooks_0.go C ⟨trivial, ?_⟩
  have := lp k 0 G A K F L none none none (by omega) hR (AK.rf A) hJ (by omega) hE
  rw [hT, Nat.sub_self] at this
  exact this
/-- the cooks who stand idle -/
def idB (K : MS) (c : Nat) : Bool := decide (upmK K c = 0 ∨ K 16 (upmK K c) = nI 3)
def idK : Nat → Nat → MS → MS
  | 0, _, K => K
  | q + 1, c, K => idK q (c + 1) (if idB K c = true then up2 K 62 c (K 62 c + nI 1) else K)
/-- what countIdle asks -/
def idOk (n k : Nat) (I : MS → Prop) : Prop := k ≤ 12 ∧ ∀ K, I K → K 1 0 = nI k ∧ n ≤ 201 ∧ ∀ c, 1 ≤ c → c ≤ 12 → LOk K n c ∧ (∀ u ∈ lsL K c, isWK K u = true) ∧ ∀ v, I (up2 K 62 c v)
set_option maxHeartbeats 2000000 in
theorem k_countIdle (d : Nat) (G : GH) (A : AS) (n k F : Nat) (K : MS) (L : KL) (I : MS → Prop) (hQ : idOk n k I) (hR : KR Y G A n F K L) (hI : I K) : Cd l yX8_countIdle cX8_countIdle 3 none (d + 4) 0 0 Y [.inr (.inr (some (A 0 0)))] G (fun r G' => r = none ∧ KR Y G' A n F (idK k 1 K) L) := by
  refine Ct.of (ini := False) (by decide +kernel) False.elim rfl (Nat.le_of_ble_eq_true rfl) ?_
  intro p e s m args below meth c C X
  have hk := hQ.1
  refine b_X8_countIdle_0.go C ⟨trivial, ?_⟩
  refine (show ∀ (q j : Nat) (G1 : GH) (K1 : MS) (o2 : Option AV), j + q = k → KR Y G1 A n F K1 L → I K1 → idK k 1 K = idK q (j + 1) K1 → V p l e (RM (d + 4) 0 0) s m args below meth c Y (GA G s.heap.size) (QM below args s (RM (d + 4) 0 0) Y G (fun r G' => r = none ∧ KR Y G' A n F (idK k 1 K) L)) 2 G1 0 0 [some (.inr (.inr (some (A 0 0)))), some (.inl (nI j)), o2] [] from ?_) k 0 G K none (by omega) hR hI rfl
  intro q
  induction q with
  | zero =>
    intro j G1 K1 o2 hj R1 h1 hs
    rw [idK] at hs
    have e0K : K1 1 0 = nI k := (hQ.2 K1 h1).1
    refine b_X8_countIdle_2.go C ⟨_, R1.mn, fun _ => ⟨trivial, ?_⟩, fun h => absurd (show K1 1 0 ≤ nI j by rw [e0K]; exact nI_le (by omega) (by omega)) h⟩
    exact V_vret C X d_X8_countIdle_53 (Nat.zero_le _) (Nat.zero_le _) ⟨rfl, by rw [hs]; exact R1⟩
  | succ q ih =>
    intro j G1 K1 o2 hj R1 h1 hs
    obtain ⟨e0K, hn, hcs⟩ := hQ.2 K1 h1
    obtain ⟨c1, c2, c3⟩ := hcs (j + 1) (by omega) (by omega)
    have hs : idK k 1 K = idK q (j + 1 + 1) (if idB K1 (j + 1) = true then up2 K1 62 (j + 1) (K1 62 (j + 1) + nI 1) else K1) := hs.trans (by rw [idK])
    have no : idB K1 (j + 1) = false → ∀ o2, V p l e (RM (d + 4) 0 0) s m args below meth c Y (GA G s.heap.size) (QM below args s (RM (d + 4) 0 0) Y G (fun r G' => r = none ∧ KR Y G' A n F (idK k 1 K) L)) 47 G1 0 0 [some (.inr (.inr (some (A 0 0)))), some (.inl (nI j)), o2] [] := by
      intro hb o2
      rw [if_neg (by rw [hb]; decide)] at hs
      refine b_X8_countIdle_47.go C ⟨_, nI_1 _, trivial, ?_⟩
      exact ih (j + 1) G1 K1 o2 (by omega) R1 h1 hs
    have ye : idB K1 (j + 1) = true → ∀ o2, V p l e (RM (d + 4) 0 0) s m args below meth c Y (GA G s.heap.size) (QM below args s (RM (d + 4) 0 0) Y G (fun r G' => r = none ∧ KR Y G' A n F (idK k 1 K) L)) 32 G1 0 0 [some (.inr (.inr (some (A 0 0)))), some (.inl (nI j)), o2] [] := by
      intro hb o2
      rw [if_pos hb] at hs
      refine b_X8_countIdle_32.go C ⟨_, R1.mn, _, _, R1.cr, j, rfl, by omega, lb rfl, _, rfl, _, R1.ck ⟨by omega, by omega⟩, _, rfl, _, R1.ck ⟨by omega, by omega⟩, trivial, ?_⟩
      refine b_X8_countIdle_47.go C ⟨_, nI_1 _, trivial, ?_⟩
      exact ih (j + 1) _ _ o2 (by omega) (R1.c62 (i := j + 1) ⟨by omega, by omega⟩ (K1 62 (j + 1) + nI 1)) (c3 _) hs
    refine b_X8_countIdle_2.go C ⟨_, R1.mn, fun h => absurd (show nI k ≤ nI j by rw [← e0K]; exact h) (fun z => by have := (nI_leI (by omega) (by omega)).mp z; omega), fun _ => ⟨trivial, ?_⟩⟩
    refine b_X8_countIdle_10.go C ⟨_, R1.mn, _, _, R1.cr, j, rfl, by omega, lb rfl, _, rfl, trivial, ?_⟩
    refine k_X8_countIdle_16.go C X (k_upmost d G1 A n F K1 L (j + 1) R1 ⟨by omega, by omega⟩ c1 c2) (rest := []) rfl rfl rfl (fun _ => ⟨_, _, _, rfl, R1.ck ⟨by omega, by omega⟩, by decide⟩) (lb rfl) (Rq.of (by omega) (by decide) (Nat.zero_le _) (Nat.zero_le _)) ?_
    rintro r G9 ⟨h9, rfl⟩
    replace h9 := h9.symm
    subst h9
    by_cases h0 : upmK K1 (j + 1) = 0
    · rw [h0]
      refine b_X8_countIdle_19.go C ⟨fun _ => ⟨trivial, ?_⟩, fun _ h => by cases h⟩
      exact ye (decide_eq_true (Or.inl h0)) _
    · obtain ⟨y1, y2⟩ := upm_in c1 h0
      rw [opS_s h0]
      refine b_X8_countIdle_19.go C ⟨fun h => (by cases h), fun _ _ => ⟨trivial, ?_⟩⟩
      refine b_X8_countIdle_24.go C ⟨_, R1.wk y2 (c2 _ y1), fun h24 => ⟨trivial, ?_⟩, fun h24 => ⟨trivial, ?_⟩⟩
      · have h24 : ¬ K1 16 (upmK K1 (j + 1)) = nI 3 := h24
        exact no (decide_eq_false (fun z => z.elim h0 h24)) _
      · have h24 : K1 16 (upmK K1 (j + 1)) = nI 3 := h24
        exact ye (decide_eq_true (Or.inr h24)) _
end CLT
