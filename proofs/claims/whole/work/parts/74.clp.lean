/-! the class: resumeOrTake -/
section CLP
variable {l : Launch} {Y : YT}
theorem rtR_o {K : MS} {y f j : Nat} (h80 : f ≠ 80) (h81 : f ≠ 81) (h82 : f ≠ 82) : rtR K y f j = K f j := jrn_o h82 (fun e => h80 e.1) (fun e => h81 e.1)
set_option maxHeartbeats 4000000 in
theorem k_resumeOrTake (d : Nat) (G : GH) (A : AS) (n F : Nat) (K : MS) (L : KL) (c0 : Nat) (hR : KR Y G A n F K L) (hc : 1 ≤ c0 ∧ c0 ≤ 12) (hok : rtOk K n F c0) (hj2 : jrOk (rtR K (upmK K c0))) : Cd l yX8_resumeOrTake cX8_resumeOrTake 5 (some (.object "PromiseKitchen$Work")) (d + 8) (PhK K F - PhK (rtK K F L c0) (rtF K F c0)) (PhK K F - PhK (rtK K F L c0) (rtF K F c0)) Y [.inr (.inr (some (A 0 0))), .inr (.inr (some (A 8 c0)))] G (fun r G' => ∃ A', KR Y G' A' n (rtF K F c0) (rtK K F L c0) (rtL K L c0) ∧ AK A A' ∧ r = some (.inr (.inr (opS A (rtE K F c0))))) := by
  refine Ct.of (ini := False) (by decide +kernel) False.elim rfl (Nat.le_of_ble_eq_true rfl) ?_
  intro p e s m args below meth c C X
  have hn := hR.2.2.1
  obtain ⟨hL, hj, hrd, hF, hpl, hrw⟩ := hok
  have hlc := hL c0 (by omega)
  refine b_X8_resumeOrTake_0.go C ⟨trivial, ?_⟩
  refine k_X8_resumeOrTake_1.go C X (k_upmost (d + 4) G A n F K L c0 hR hc hlc.1 (fun u hu => (hpl u hu).1)) (rest := []) rfl rfl rfl (fun _ => ⟨_, _, _, rfl, hR.ck hc, by decide⟩) (lb rfl) (Rq.of (by omega) (by decide) (Nat.zero_le _) (Nat.zero_le _)) ?_
  rintro r G9 ⟨h9, rfl⟩
  replace h9 := h9.symm
  subst h9
  by_cases h0 : upmK K c0 = 0
  · have e1 : rtK K F L c0 = if chsK K L 0 = 0 then K else tkK K c0 (chsK K L 0) := by rw [rtK, if_pos h0]
    have e2 : rtF K F c0 = F := by rw [rtF, if_pos h0]
    have e3 : rtL K L c0 = if chsK K L 0 = 0 then L else mrkL L (tkO K (chsK K L 0)).toNatClampNeg := by rw [rtL, if_pos h0]
    have e4 : rtE K F c0 = 0 := by rw [rtE, if_pos h0]
    rw [e1, e2, e3, e4, h0]
    refine b_X8_resumeOrTake_4.go C ⟨fun a9 h9 => (by cases h9), fun _ => ⟨trivial, ?_⟩⟩
    refine b_X8_resumeOrTake_9.go C ⟨trivial, ?_⟩
    refine k_X8_resumeOrTake_13.go C X (k_choose (d + 4) G A n F K L 0 hR (Nat.zero_le _) hrd) (rest := [.inr (.inr (some (A 8 c0))), .inr (.inr (some (A 0 0)))]) rfl rfl rfl (fun _ => ⟨_, _, _, rfl, hR.mn, by decide⟩) (lb rfl) (Rq.of (by omega) (by decide) (Nat.zero_le _) (Nat.zero_le _)) ?_
    rintro r G9 ⟨h9, rfl⟩
    replace h9 := h9.symm
    subst h9
    by_cases hu0 : chsK K L 0 = 0
    · rw [if_pos hu0, if_pos hu0, hu0]
      refine k_X8_resumeOrTake_16.go C X (k_take0 (d + 7) G A n F K L c0) (rest := []) rfl rfl rfl (fun _ => ⟨_, _, _, rfl, hR.mn, by decide⟩) (lb rfl) (Rq.of (by omega) (by decide) (Nat.zero_le _) (Nat.zero_le _)) ?_
      rintro r G9 ⟨rfl, h9⟩
      replace h9 := h9.symm
      subst h9
      refine b_X8_resumeOrTake_19.go C ⟨trivial, ?_⟩
      exact V_aret C X (Or.inl ⟨_, rfl⟩) d_X8_resumeOrTake_20 (Nat.zero_le _) (Nat.zero_le _) ⟨A, hR, AK.rf A, rfl⟩
    · rw [if_neg hu0, if_neg hu0, opS_s hu0]
      obtain ⟨m1, m2, m3⟩ := chs_in hrd hu0
      obtain ⟨w, hw1, hw2⟩ := hrw _ m1
      have hle := tk_le (F := F) (c := c0) (u := chsK K L 0) hL (by omega) hc.2 m2 hj
      refine k_X8_resumeOrTake_16.go C X (k_take d G A n F K L c0 (chsK K L 0) w hR hc m2 m3 hL hj hw2 hw1) (rest := []) rfl rfl rfl (fun _ => ⟨_, _, _, rfl, hR.mn, by decide⟩) (lb rfl) (Rq.of (by omega) (by decide) (by omega) (by omega)) ?_
      rintro r G9 ⟨rfl, A1, R9, hA⟩
      refine b_X8_resumeOrTake_19.go C ⟨trivial, ?_⟩
      exact V_aret C X (Or.inl ⟨_, rfl⟩) d_X8_resumeOrTake_20 (by show _ ≤ PhK K F - PhK (tkK K c0 (chsK K L 0)) F; omega) (by show _ ≤ PhK K F - PhK (tkK K c0 (chsK K L 0)) F; omega) ⟨A1, by rw [hw2, nI_clamp (by omega)]; exact R9, hA, rfl⟩
  obtain ⟨y1, y2⟩ := upm_in hlc.1 h0
  obtain ⟨hwy, hy3⟩ := hpl _ y1
  rw [opS_s h0]
  refine b_X8_resumeOrTake_4.go C ⟨fun a9 h9 => ⟨trivial, ?_⟩, fun h9 => by cases h9⟩
  by_cases h3 : K 16 (upmK K c0) = nI 3
  · obtain ⟨hin, hk1, w, hw1, hw2⟩ := hy3 h3
    obtain ⟨u0, u1, u2⟩ := hin.2.2 0 (by omega)
    refine b_X8_resumeOrTake_21.go C ⟨_, hR.wk y2 hwy, fun _ => ⟨trivial, ?_⟩, fun h => absurd h3 h⟩
    refine b_X8_resumeOrTake_31.go C ⟨trivial, ?_⟩
    refine k_X8_resumeOrTake_32.go C X (k_firstInput (d + 7) G A n F K L (upmK K c0) hR y2 hin (by omega)) (rest := []) rfl rfl rfl (fun _ => ⟨_, _, _, rfl, hR.wk y2 hwy, by decide⟩) (lb rfl) (Rq.of (by omega) (by decide) (Nat.zero_le _) (Nat.zero_le _)) ?_
    rintro r G9 ⟨h9, rfl⟩
    replace h9 := h9.symm
    subst h9
    refine b_X8_resumeOrTake_35.go C ⟨trivial, ?_⟩
    refine k_X8_resumeOrTake_37.go C X (c_hasEnded (d + 7) G (A 1 (iK K (upmK K c0) 0)) _ _ _ (hR.st ⟨u1, u2⟩)) (rest := []) rfl rfl rfl (fun _ => ⟨_, _, _, rfl, hR.st ⟨u1, u2⟩, stC_in _⟩) (lb rfl) (Rq.of (by omega) (by decide) (Nat.zero_le _) (Nat.zero_le _)) ?_
    rintro r G9 ⟨h9, rfl⟩
    replace h9 := h9.symm
    subst h9
    refine b_X8_resumeOrTake_40.go C ⟨fun h40 => ⟨trivial, ?_⟩, fun h40 => ⟨trivial, ?_⟩⟩
    · have h5 : ¬ nI 5 ≤ K 16 (iK K (upmK K c0) 0) := wi_0 h40
      generalize hyy : upmK K c0 = y at *
      have e1 : rtK K F L c0 = if chsK K L (iK K y 0) = 0 then K else tkK (rtH K c0) c0 (chsK K L (iK K y 0)) := by rw [rtK, hyy, if_neg h0, if_pos h3, if_neg h5]
      have e2 : rtF K F c0 = F := by rw [rtF, hyy, if_neg h0, if_pos h3, if_neg h5]
      have e3 : rtL K L c0 = if chsK K L (iK K y 0) = 0 then L else mrkL L (tkO K (chsK K L (iK K y 0))).toNatClampNeg := by rw [rtL, hyy, if_neg h0, if_pos h3, if_neg h5]
      have e4 : rtE K F c0 = 0 := by rw [rtE, hyy, if_neg h0, if_pos h3, if_neg h5]
      rw [e1, e2, e3, e4]
      have kc := k_choose (l := l) (d + 4) G A n F K L (iK K y 0) hR u2 hrd
      rw [opS_s (show iK K y 0 ≠ 0 by omega)] at kc
      refine b_X8_resumeOrTake_78.go C ⟨trivial, ?_⟩
      refine k_X8_resumeOrTake_80.go C X kc (rest := []) rfl rfl rfl (fun _ => ⟨_, _, _, rfl, hR.mn, by decide⟩) (lb rfl) (Rq.of (by omega) (by decide) (Nat.zero_le _) (Nat.zero_le _)) ?_
      rintro r G9 ⟨h9, rfl⟩
      replace h9 := h9.symm
      subst h9
      by_cases hu0 : chsK K L (iK K y 0) = 0
      · rw [if_pos hu0, if_pos hu0, hu0]
        refine b_X8_resumeOrTake_83.go C ⟨fun _ => ⟨trivial, ?_⟩, fun _ h => by cases h⟩
        refine b_X8_resumeOrTake_107.go C ⟨trivial, ?_⟩
        exact V_aret C X (Or.inl ⟨_, rfl⟩) d_X8_resumeOrTake_108 (Nat.zero_le _) (Nat.zero_le _) ⟨A, hR, AK.rf A, rfl⟩
      · rw [if_neg hu0, if_neg hu0, opS_s hu0]
        obtain ⟨m1, m2, m3⟩ := chs_in hrd hu0
        obtain ⟨v, hv1, hv2⟩ := hrw _ m1
        have R1 := hR.c61 (i := c0) hc (K 61 c0 + nI 1)
        have LH : LA (rtH K c0) n := hL.up _ (nls (by decide))
        have hle := tk_le (F := F) (K := rtH K c0) (c := c0) (u := chsK K L (iK K y 0)) LH (by omega) hc.2 m2 hj
        have hph : PhK (rtH K c0) F = PhK K F := PhK_up (by decide) (by decide) (nls (by decide))
        refine b_X8_resumeOrTake_83.go C ⟨fun h => (by cases h), fun _ _ => ⟨trivial, ?_⟩⟩
        refine b_X8_resumeOrTake_90.go C ⟨_, hR.ck hc, _, rfl, _, hR.ck hc, trivial, ?_⟩
        refine k_X8_resumeOrTake_104.go C X (k_take d _ A n F (rtH K c0) L c0 (chsK K L (iK K y 0)) v R1 hc m2 m3 LH hj hv2 hv1) (rest := []) rfl rfl rfl (fun _ => ⟨_, _, _, rfl, R1.mn, by decide⟩) (lb rfl) (Rq.of (by omega) (by decide) (by omega) (by omega)) ?_
        rintro r G9 ⟨rfl, A1, R9, hA⟩
        refine b_X8_resumeOrTake_107.go C ⟨trivial, ?_⟩
        exact V_aret C X (Or.inl ⟨_, rfl⟩) d_X8_resumeOrTake_108 (by show _ ≤ PhK K F - PhK (tkK (rtH K c0) c0 (chsK K L (iK K y 0))) F; omega) (by show _ ≤ PhK K F - PhK (tkK (rtH K c0) c0 (chsK K L (iK K y 0))) F; omega) ⟨A1, by rw [hv2, nI_clamp (by omega)]; exact R9, hA, rfl⟩
    · have h5 : nI 5 ≤ K 16 (iK K (upmK K c0) 0) := wi_1 h40
      generalize hyy : upmK K c0 = y at *
      have e1 : rtK K F L c0 = mtK (rtR K y) F y := by rw [rtK, hyy, if_neg h0, if_pos h3, if_pos h5]
      have e2 : rtF K F c0 = mtN (rtR K y) F y := by rw [rtF, hyy, if_neg h0, if_pos h3, if_pos h5]
      have e3 : rtL K L c0 = mtL (rtR K y) L y := by rw [rtL, hyy, if_neg h0, if_pos h3, if_pos h5]
      have e4 : rtE K F c0 = if nI 5 ≤ mtK (rtR K y) F y 16 y then y else 0 := by rw [rtE, hyy, if_neg h0, if_pos h3, if_pos h5]
      rw [e1, e2, e3, e4]
      have hl1 : jcK K + PhK (rtR K y) F ≤ PhK K F := PhK_jrn hj
      have hl2 := mt_le (K := rtR K y) (F := F) (i := y) hj2 hF
      have w1 : isWK (rtR K y) y = true := by rw [wk_e (fun j => rtR_o (by decide) (by decide) (by decide))]; exact hwy
      have in1 : inK (rtR K y) n y := inK_e (rtR_o (by decide) (by decide) (by decide)) (funext (fun j => rtR_o (by omega) (by omega) (by omega))) hin
      have k1 : nN (rtR K y) 12 y = 1 := by rw [nN, rtR_o (by decide) (by decide) (by decide)]; exact hk1
      have b1 : bsO (rtR K y) y = nI w := by unfold bsO; rw [rtR_o (by decide) (by decide) (by decide), rtR_o (by decide) (by decide) (by decide)]; exact hw2
      refine b_X8_resumeOrTake_43.go C ⟨_, hR.mn, _, hR.mn, _, hR.wk y2 hwy, trivial, ?_⟩
      refine k_X8_resumeOrTake_57.go C X (k_enter (d + 5) G A n F K L (K 2 0) (K 10 y) (nI 6) hR hj) (rest := []) rfl rfl rfl (fun _ => ⟨_, _, _, rfl, hR.jr, by decide⟩) (lb rfl) (Rq.of (by omega) (by decide) (by omega) (by omega)) ?_
      rintro r G9 ⟨rfl, A1, R9, hA⟩
      have R9 : KR Y G9 A1 n F (rtR K y) L := R9
      rw [← hA.kt, ← hA.sg y]
      refine b_X8_resumeOrTake_60.go C ⟨trivial, ?_⟩
      refine k_X8_resumeOrTake_62.go C X (k_meetInput (d + 4) G9 A1 n F (rtR K y) L y w R9 y2 w1 in1 (by omega) hj2 hF b1 hw1) (rest := []) rfl rfl rfl (fun _ => ⟨_, _, _, rfl, R9.mn, by decide⟩) (lb rfl) (Rq.of (by omega) (by decide) (by omega) (by omega)) ?_
      rintro r G8 ⟨rfl, A2, R8, hA2⟩
      rw [← hA2.kt, ← hA2.sg y]
      refine b_X8_resumeOrTake_65.go C ⟨trivial, ?_⟩
      have w2 : isWK (mtK (rtR K y) F y) y = true := by
        have : ∀ j, mtK (rtR K y) F y 11 j = rtR K y 11 j := fun j => by
          unfold mtK
          split
          · unfold bsK; rw [up2_f (by decide), up2_f (by decide), up2_f (by decide)]
          · split
            · unfold mtF failK; rw [up2_f (by decide), up2_f (by decide), newFK_o (by omega) (by omega)]
            · split
              · unfold offK; rw [up2_f (by decide)]
              · unfold mtW; rw [jrn_o (by decide) (by omega) (by omega), up2_f (by decide)]
        rw [wk_e this]; exact w1
      refine k_X8_resumeOrTake_66.go C X (c_hasEnded (d + 7) G8 (A2 1 y) true _ _ (R8.wk y2 w2)) (rest := []) rfl rfl rfl (fun _ => ⟨_, _, _, rfl, R8.wk y2 w2, by decide⟩) (lb rfl) (Rq.of (by omega) (by decide) (by omega) (by omega)) ?_
      rintro r G7 ⟨h9, rfl⟩
      replace h9 := h9.symm
      subst h9
      refine b_X8_resumeOrTake_69.go C ⟨fun h69 => ⟨trivial, ?_⟩, fun h69 => ⟨trivial, ?_⟩⟩
      · have h69 : ¬ nI 5 ≤ mtK (rtR K y) F y 16 y := wi_0 h69
        refine b_X8_resumeOrTake_76.go C ⟨trivial, ?_⟩
        exact V_aret C X (Or.inl ⟨_, rfl⟩) d_X8_resumeOrTake_77 (by show _ ≤ PhK K F - PhK (mtK (rtR K y) F y) (mtN (rtR K y) F y); omega) (by show _ ≤ PhK K F - PhK (mtK (rtR K y) F y) (mtN (rtR K y) F y); omega) ⟨A2, R8, hA.tr hA2, by rw [if_neg h69]; rfl⟩
      · have h69 : nI 5 ≤ mtK (rtR K y) F y 16 y := wi_1 h69
        refine b_X8_resumeOrTake_72.go C ⟨trivial, ?_⟩
        exact V_aret C X (Or.inl ⟨_, rfl⟩) d_X8_resumeOrTake_77 (by show _ ≤ PhK K F - PhK (mtK (rtR K y) F y) (mtN (rtR K y) F y); omega) (by show _ ≤ PhK K F - PhK (mtK (rtR K y) F y) (mtN (rtR K y) F y); omega) ⟨A2, R8, hA.tr hA2, by rw [if_pos h69, opS_s h0, hA2.sg, hA.sg]⟩
  · have e1 : rtK K F L c0 = K := by rw [rtK, if_neg h0, if_neg h3]
    have e2 : rtF K F c0 = F := by rw [rtF, if_neg h0, if_neg h3]
    have e3 : rtL K L c0 = L := by rw [rtL, if_neg h0, if_neg h3]
    have e4 : rtE K F c0 = 0 := by rw [rtE, if_neg h0, if_neg h3]
    rw [e1, e2, e3, e4]
    refine b_X8_resumeOrTake_21.go C ⟨_, hR.wk y2 hwy, fun h => absurd h h3, fun _ => ⟨trivial, ?_⟩⟩
    refine b_X8_resumeOrTake_29.go C ⟨trivial, ?_⟩
    exact V_aret C X (Or.inl ⟨_, rfl⟩) d_X8_resumeOrTake_30 (Nat.zero_le _) (Nat.zero_le _) ⟨A, hR, AK.rf A, rfl⟩
end CLP
