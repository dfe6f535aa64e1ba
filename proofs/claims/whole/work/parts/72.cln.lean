/-! the class: finishWorking -/
section CLN
variable {l : Launch} {Y : YT}
def fwK0 (K : MS) (i : Nat) : Int32 := kndK K (K 10 i) (K 27 i)
/-- of what kind the working of i fails; -1: it doesn't -/
def fwKd (K : MS) (i : Nat) : Int32 := if fwK0 K i = -1 ∧ K 13 i = nI 4 then K 14 i &&& nI 15 else fwK0 K i
def fnN (K : MS) (F i : Nat) : MS := newFK K (F + 1) (fwKd K i) (K 10 i) 0 0 (fun _ => 0)
def fnP1 (K : MS) (F i : Nat) : MS := bpK (fnN K F i) i (K 2 0) (F + 1)
def fnP2 (K : MS) (F i : Nat) : MS := relK (fnP1 K F i) i
def fnP (K : MS) (F i : Nat) : MS := jrnK (fnP2 K F i) (K 2 0) (K 10 i) (nI 7)
def fnE (K : MS) (F i : Nat) : MS := failK (newFK K (F + 1) (fwKd K i) (K 10 i) 0 (nN K 32 i) (erlA K i (nN K 32 i))) i (nI (F + 1))
/-- does it pause? -/
def fnB (K : MS) (i : Nat) : Bool := und (fwKd K i).toNatClampNeg 1 && mpB K i
def fnK (K : MS) (F i : Nat) : MS := if fwKd K i = -1 then gainK K i (resV K i) else if fnB K i = true then fnP K F i else fnE K F i
def fnF (K : MS) (F i : Nat) : Nat := if fwKd K i = -1 then F else F + 1
def fnL (K : MS) (L : KL) (i : Nat) : KL := if fwKd K i = -1 then L else if fnB K i = true then mrkL L (bpO K i (K 2 0)).toNatClampNeg else L
def fnC (K : MS) (F i : Nat) : Nat := if fwKd K i = -1 then 0 else if fnB K i = true then 40 + jcK (fnP2 K F i) else 40
/-- what finishWorking asks -/
def fnOk (K : MS) (n i : Nat) : Prop := plK K ∧ (fwKd K i = -1 ∨ ∃ k, k ≤ 15 ∧ fwKd K i = nI k) ∧ (K 11 i = nI 3 → inK K n i ∧ 1 ≤ nN K 12 i) ∧ (K 13 i = nI (nN K 13 i) ∧ nN K 13 i ≤ 4) ∧ pzOk K i ∧ nN K 32 i ≤ nN K 35 i ∧ (∀ j, j < nN K 32 i → K (3000 + i) j = nI (nN K (3000 + i) j)) ∧ hdOk K i ∧ jrOk K ∧ LA K n ∧ ∃ w, w ≤ 100000 ∧ bpO K i (K 2 0) = nI w
set_option maxHeartbeats 4000000 in
theorem k_finishWorking (d : Nat) (G : GH) (A : AS) (n F : Nat) (K : MS) (L : KL) (i0 : Nat) (hR : KR Y G A n F K L) (hi : 1 ≤ i0 ∧ i0 ≤ n) (hw : isWK K i0 = true) (hok : fnOk K n i0) (hF : F + 1 ≤ 2000) : Cd l yX8_finishWorking cX8_finishWorking 3 none (d + 6) ((fnC K F i0)) ((fnC K F i0)) Y [.inr (.inr (some (A 0 0))), .inr (.inr (some (A 1 i0)))] G (fun r G' => r = none ∧ ∃ A', KR Y G' A' n (fnF K F i0) (fnK K F i0) (fnL K L i0) ∧ AK A A') := by
  refine Ct.of (ini := False) (by decide +kernel) False.elim rfl (Nat.le_of_ble_eq_true rfl) ?_
  intro p e s m args below meth c C X
  have hn := hR.2.2.1
  obtain ⟨hpl, hkd, hin, ⟨hk13, hk13b⟩, hpz, hple, hper, hhd, hj, hL, w, hw2, hbo⟩ := hok
  have tl : ∀ v : Int32, v = fwKd K i0 → V p l e (RM (d + 6) (((fnC K F i0))) (((fnC K F i0)))) s m args below meth c Y (GA G s.heap.size) (QM below args s (RM (d + 6) (((fnC K F i0))) (((fnC K F i0)))) Y G (fun r G' => r = none ∧ ∃ A', KR Y G' A' n (fnF K F i0) (fnK K F i0) (fnL K L i0) ∧ AK A A')) 37 G 0 0 [some (.inr (.inr (some (A 0 0)))), some (.inr (.inr (some (A 1 i0)))), some (.inl v)] [] := by
    intro v hv
    subst hv
    by_cases h1 : fwKd K i0 = -1
    · refine b_X8_finishWorking_37.go C ⟨fun h => absurd h1 h, fun _ => ⟨trivial, ?_⟩⟩
      refine b_X8_finishWorking_42.go C ⟨trivial, ?_⟩
      refine k_X8_finishWorking_44.go C X (k_result (d + 4) G A n F K L i0 hR hi hw hin hk13 hk13b) (rest := [.inr (.inr (some (A 1 i0)))]) rfl rfl rfl (fun _ => ⟨_, _, _, rfl, hR.wk (by omega) hw, by decide⟩) (lb rfl) (Rq.of (by omega) (by decide) (Nat.zero_le _) (Nat.zero_le _)) ?_
      rintro r G9 ⟨h9, rfl⟩
      replace h9 := h9.symm
      subst h9
      refine k_X8_finishWorking_47.go C X (c_gain (d + 5) G (A 1 i0) true _ _ (resV K i0) (hR.wk hi hw)) (rest := []) rfl rfl rfl (fun _ => ⟨_, _, _, rfl, hR.wk hi hw, by decide⟩) (lb rfl) (Rq.of (by omega) (by decide) (Nat.zero_le _) (Nat.zero_le _)) ?_
      rintro r G9 ⟨rfl, rfl⟩
      refine b_X8_finishWorking_50.go C ⟨trivial, ?_⟩
      exact V_vret C X d_X8_finishWorking_145 (by show _ ≤ ((fnC K F i0)); omega) (by show _ ≤ ((fnC K F i0)); omega) ⟨rfl, A, by rw [fnF, if_pos h1, fnK, if_pos h1, fnL, if_pos h1]; exact (by have := hR.gain hi (resV K i0); rw [hw] at this; exact this), AK.rf A⟩
    · obtain ⟨kd, hkd1, hkd2⟩ := hkd.resolve_left h1
      have ekd : (fwKd K i0).toNatClampNeg = kd := by rw [hkd2, nI_clamp (by omega)]
      refine b_X8_finishWorking_37.go C ⟨fun _ => ⟨trivial, ?_⟩, fun h => absurd h h1⟩
      have fl : fnB K i0 = false → V p l e (RM (d + 6) (((fnC K F i0))) (((fnC K F i0)))) s m args below meth c Y (GA G s.heap.size) (QM below args s (RM (d + 6) (((fnC K F i0))) (((fnC K F i0)))) Y G (fun r G' => r = none ∧ ∃ A', KR Y G' A' n (fnF K F i0) (fnK K F i0) (fnL K L i0) ∧ AK A A')) 124 G 0 0 [some (.inr (.inr (some (A 0 0)))), some (.inr (.inr (some (A 1 i0)))), some (.inl (fwKd K i0))] [] := by
        intro hB
        have hc9 : fnC K F i0 = 40 := by rw [fnC, if_neg h1, if_neg (by rw [hB]; decide)]
        obtain ⟨p1, p2, p3, p4⟩ := hpz
        refine b_X8_finishWorking_124.go C ⟨by show _ ≤ fnC K F i0; omega, by show _ ≤ fnC K F i0; omega, fun qf hqf => ?_⟩
        have R1 := hR.fresh hqf (fC 0 0 none none 0 0 0 0 none)
        refine ⟨_, R1.wk hi hw, trivial, ?_⟩
        refine kx_finishWorking_136.go C X (k_earlierFailures (d + 5) _ A n F K L i0 R1 hi hw ⟨p1, p2, p3, p4⟩ hple hper) (rest := [.inr (.inr none), .inl (K 10 i0), .inl (fwKd K i0), .inr (.inr (some qf)), .inr (.inr (some qf)), .inr (.inr (some (A 1 i0)))]) rfl rfl rfl (fun _ => ⟨_, _, _, rfl, R1.wk hi hw, by decide⟩) rfl (lb rfl) (Rq.of (by omega) (by decide) (by show _ ≤ fnC K F i0; omega) (by show _ ≤ fnC K F i0; omega)) ?_
        rintro r G9 ⟨qs, hqs, rfl, rfl⟩
        have hne : qf ≠ qs := ne_none up_eq hqs
        have hqs' : G qs = none := (up_ne (Ne.symm hne)).symm.trans hqs
        refine k_X8_finishWorking_139.go C X (c_Failure4 (d + 4) _ qf (fwKd K i0) (K 10 i0) none (some qs) ((up_ne hne).trans up_eq)) (rest := [.inr (.inr (some qf)), .inr (.inr (some (A 1 i0)))]) rfl rfl rfl (fun _ => ⟨_, _, _, rfl, (up_ne hne).trans up_eq, by decide⟩) (lb rfl) (Rq.of (by omega) (by decide) (by show _ ≤ fnC K F i0; omega) (by show _ ≤ fnC K F i0; omega)) ?_
        rintro r G9 ⟨rfl, rfl⟩
        rw [up_comm hne, bx_uu]
        obtain ⟨w0, σ0, ρ0, hst, A', hSP, hX⟩ := SP.fl (g := fun j => dec A 6 (erlA K i0 (nN K 32 i0) j)) (kd := fwKd K i0) (ca := 0) (sup := erlA K i0 (nN K 32 i0)) (ns := nN K 32 i0) hR hi hF hqs' hqf (Ne.symm hne) (Nat.zero_le _) (fun j => by
          unfold erlA
          split
          · exact hR.2.2.2.2.2 (3000 + i0) j (decide_eq_true (by omega)) (by rw [own_5 j (by omega)]; exact ⟨hi, hw⟩)
          · exact Nat.zero_le _) (by omega) (fun _ => rfl)
        rw [dec_0 rfl] at hst hSP
        have hw0 : w0 = true := by
          have h2 := (up_ne (ne_none (hR.wk hi hw) hqf)).symm.trans hst
          have h3 := (up_ne (ne_none (hR.wk hi hw) hqs')).symm.trans h2
          rw [hR.wk hi hw] at h3
          have := congrArg (fun (o : Option AC) => match o with | some (.inr (ci, _)) => ci | _ => 0) h3
          cases w0 with
          | true => rfl
          | false => exact absurd (show (7 : Nat) = 6 from this) (by decide)
        subst hw0
        refine k_X8_finishWorking_142.go C X (c_fail (d + 5) _ (A 1 i0) true σ0 ρ0 (some qf) hst) (rest := []) rfl rfl rfl (fun _ => ⟨_, _, _, rfl, hst, by decide⟩) (lb rfl) (Rq.of (by omega) (by decide) (by show _ ≤ fnC K F i0; omega) (by show _ ≤ fnC K F i0; omega)) ?_
        rintro r G9 ⟨rfl, rfl⟩
        exact V_vret C X d_X8_finishWorking_145 (by show _ ≤ ((fnC K F i0)); omega) (by show _ ≤ ((fnC K F i0)); omega) ⟨rfl, A', by rw [fnF, if_neg h1, fnK, if_neg h1, if_neg (by rw [hB]; decide), fnL, if_neg h1, if_neg (by rw [hB]; decide)]; exact hSP, hX.ak⟩
      have hst0 : (([.inl (nI 1), .inl (fwKd K i0)] : List AV)) = [.inl (nI 1), .inl (nI kd)] := by rw [hkd2]
      refine b_X8_finishWorking_53.go C ⟨trivial, ?_⟩
      refine k_X8_finishWorking_55.go C X (c_isUnder (d + 5) G kd 1 hkd1 (by decide)) (rest := []) hst0 rfl rfl (fun h => absurd rfl h) (lb rfl) (Rq.of (by omega) (by decide) (Nat.zero_le _) (Nat.zero_le _)) ?_
      rintro r G9 ⟨h9, rfl⟩
      replace h9 := h9.symm
      subst h9
      refine b_X8_finishWorking_58.go C ⟨fun h58 => ⟨trivial, ?_⟩, fun h58 => ⟨trivial, ?_⟩⟩
      · exact fl (by rw [fnB, ekd, bI_0 h58]; rfl)
      have h58 := bI_1 h58
      refine b_X8_finishWorking_61.go C ⟨trivial, ?_⟩
      refine k_X8_finishWorking_62.go C X (k_mayPause (d + 5) G A n F K L i0 hR hi hw hpz) (rest := []) rfl rfl rfl (fun _ => ⟨_, _, _, rfl, hR.wk (by omega) hw, by decide⟩) (lb rfl) (Rq.of (by omega) (by decide) (Nat.zero_le _) (Nat.zero_le _)) ?_
      rintro r G9 ⟨h9, rfl⟩
      replace h9 := h9.symm
      subst h9
      refine b_X8_finishWorking_65.go C ⟨fun h65 => ⟨trivial, ?_⟩, fun h65 => ⟨trivial, ?_⟩⟩
      · exact fl (by rw [fnB, bI_0 h65, Bool.and_false])
      have h65 := bI_1 h65
      have hB : fnB K i0 = true := by rw [fnB, ekd, h58, h65]; rfl
      have hc9 : fnC K F i0 = 40 + jcK (fnP2 K F i0) := by rw [fnC, if_neg h1, if_pos hB]
      refine b_X8_finishWorking_68.go C ⟨_, hR.mn, by show _ ≤ fnC K F i0; omega, by show _ ≤ fnC K F i0; omega, fun qf hqf => ?_⟩
      have R1 := hR.fresh hqf (fC 0 0 none none 0 0 0 0 none)
      refine ⟨_, R1.wk hi hw, trivial, ?_⟩
      refine k_X8_finishWorking_82.go C X (c_Failure2 (d + 3) _ qf (fwKd K i0) (K 10 i0) up_eq) (rest := [.inr (.inr (some qf)), .inl ((K 2 0)), .inr (.inr (some (A 1 i0)))]) rfl rfl rfl (fun _ => ⟨_, _, _, rfl, up_eq, by decide⟩) (lb rfl) (Rq.of (by omega) (by decide) (by show _ ≤ fnC K F i0; omega) (by show _ ≤ fnC K F i0; omega)) ?_
      rintro r G9 ⟨rfl, qs, hqs, rfl⟩
      have hne : qf ≠ qs := ne_none up_eq hqs
      have hqs' : G qs = none := (up_ne (Ne.symm hne)).symm.trans hqs
      rw [up_comm hne, bx_uu]
      have R2 := hR.newF (kd := fwKd K i0) (at' := K 10 i0) (ca := 0) (sup := fun _ => 0) (ns := 0) hF hqs' hqf (Ne.symm hne) (Nat.zero_le _) (fun _ => Nat.zero_le _) (by omega)
      rw [show oar 4 0 (fun j => dec A 6 ((fun _ => (0 : Int32)) j)) = oar 4 0 (fun _ => none) from oar_cg (fun _ => dec_0 rfl), dec_0 rfl] at R2
      have R2 : KR Y _ _ n (F + 1) (fnN K F i0) L := R2
      have hA : AK A (upA (upA A 7 (F + 1) qs) 6 (F + 1) qf) := fun k i h1 h2 _ _ => by rw [upA_n (fun e => h1 e.1), upA_n (fun e => h2 e.1)]
      have e6 : upA (upA A 7 (F + 1) qs) 6 (F + 1) qf 6 (F + 1) = qf := upA_s _ _ _ _
      generalize upA (upA A 7 (F + 1) qs) 6 (F + 1) qf = A1 at R2 hA e6
      have oN : ∀ f j, ¬ (50 ≤ f ∧ f ≤ 58) → f < 10000 → fnN K F i0 f j = K f j := fun f j h1 h2 => newFK_o (by omega) (by omega)
      have w1 : isWK (fnN K F i0) i0 = true := by rw [wk_e (fun j => oN 11 j (by decide) (by decide))]; exact hw
      have pz1 : pzOk (fnN K F i0) i0 := by
        unfold pzOk nN
        rw [oN 32 i0 (by decide) (by decide), oN 34 i0 (by decide) (by decide), oN 35 i0 (by decide) (by decide)]
        exact hpz
      have mp1 : mpB (fnN K F i0) i0 = true := by
        unfold mpB nN
        rw [oN 32 i0 (by decide) (by decide), oN 34 i0 (by decide) (by decide), oN 35 i0 (by decide) (by decide)]
        exact h65
      have kb := k_beginPause (l := l) (d + 4) _ A1 n (F + 1) (fnN K F i0) L i0 (F + 1) (K 2 0) R2 hi w1 pz1 mp1 ⟨by omega, Nat.le_refl _⟩
      rw [e6, hA.sg i0] at kb
      refine k_X8_finishWorking_85.go C X kb (rest := []) rfl rfl rfl (fun _ => ⟨_, _, _, rfl, by have := R2.wk hi w1; rw [hA.sg i0] at this; exact this, by decide⟩) (lb rfl) (Rq.of (by omega) (by decide) (by show _ ≤ fnC K F i0; omega) (by show _ ≤ fnC K F i0; omega)) ?_
      rintro r G8 ⟨rfl, R3⟩
      rw [← hA.kt, ← hA.sg i0]
      have R3 : KR Y G8 A1 n (F + 1) (fnP1 K F i0) L := R3
      have oP : ∀ f j, f ≠ 25 → f ≠ 32 → f ≠ 16 → f < 2000 → ¬ (50 ≤ f ∧ f ≤ 58) → fnP1 K F i0 f j = K f j := fun f j a b c d e => by
        unfold fnP1 bpK
        rw [up2_f c, up2_f b, up2_f (by omega), up2_f (by omega), up2_f a, oN f j e (by omega)]
      have w3 : isWK (fnP1 K F i0) i0 = true := by rw [wk_e (fun j => oP 11 j (by decide) (by decide) (by decide) (by decide) (by decide))]; exact hw
      have eo : fnP1 K F i0 25 i0 = nI w := by
        unfold fnP1 bpK
        rw [up2_f (by decide), up2_f (by decide), up2_f (by omega), up2_f (by omega), up2_s]
        unfold bpO
        rw [oN 33 i0 (by decide) (by decide), oN 32 i0 (by decide) (by decide)]
        exact hbo
      have lsP : ∀ f j, isLs f → fnP1 K F i0 f j = K f j := fun f j h => by
        unfold isLs at h
        unfold fnP1 bpK
        rw [up2_f (by omega), up2_f (by omega), up2_f (by omega), up2_f (by omega), up2_f (by omega), oN f j (by omega) (by omega)]
      refine b_X8_finishWorking_88.go C ⟨_, R3.mn, _, R3.wk hi w3, trivial, ?_⟩
      refine k_X8_finishWorking_96.go C X (k_mark (d + 4) G8 A1 n (F + 1) (fnP1 K F i0) L w R3 hw2) (rest := []) (show _ = _ from congrArg (fun z : Int32 => ([.inl z, .inr (.inr (some (A1 15 0)))] : List AV)) eo) rfl rfl (fun _ => ⟨_, _, _, rfl, R3.ag, by decide⟩) (lb rfl) (Rq.of (by omega) (by decide) (by show _ ≤ fnC K F i0; omega) (by show _ ≤ fnC K F i0; omega)) ?_
      rintro r G7 ⟨rfl, R4⟩
      have hd3 : hdOk (fnP1 K F i0) i0 := by
        unfold hdOk nN
        rw [oP 31 i0 (by decide) (by decide) (by decide) (by decide) (by decide)]
        exact hhd
      refine b_X8_finishWorking_99.go C ⟨trivial, ?_⟩
      refine k_X8_finishWorking_101.go C X (k_release (d + 1) G7 A1 n (F + 1) (fnP1 K F i0) (mrkL L w) i0 R4 hi w3 (hL.cg lsP) hd3) (rest := []) rfl rfl rfl (fun _ => ⟨_, _, _, rfl, R4.mn, by decide⟩) (lb rfl) (Rq.of (by omega) (by decide) (by show _ ≤ fnC K F i0; omega) (by show _ ≤ fnC K F i0; omega)) ?_
      rintro r G6 ⟨rfl, R5⟩
      have R5 : KR Y G6 A1 n (F + 1) (fnP2 K F i0) (mrkL L w) := R5
      have oR : ∀ f j, f ≠ 25 → f ≠ 32 → f ≠ 16 → f < 2000 → ¬ (50 ≤ f ∧ f ≤ 58) → f ≠ 29 → f ≠ 31 → f ≠ 63 → ¬ isLs f → fnP2 K F i0 f j = K f j := fun f j a b c d e g h1 h2 h3 => by
        unfold fnP2
        rw [relK_o hd3.2 g h1 h2 h3, oP f j a b c d e]
      have nl : ∀ f, f = 2 ∨ f = 10 ∨ f = 11 ∨ f = 80 ∨ f = 81 → ¬ isLs f := fun f h q => by unfold isLs at q; omega
      have w5 : isWK (fnP2 K F i0) i0 = true := by rw [wk_e (fun j => oR 11 j (by decide) (by decide) (by decide) (by decide) (by decide) (by decide) (by decide) (by decide) (nl _ (by decide)))]; exact hw
      have hj5 : jrOk (fnP2 K F i0) := jrOk_e (oR 80 0 (by decide) (by decide) (by decide) (by decide) (by decide) (by decide) (by decide) (by decide) (nl _ (by decide))) (oR 81 0 (by decide) (by decide) (by decide) (by decide) (by decide) (by decide) (by decide) (by decide) (nl _ (by decide))) hj
      have eT : fnP K F i0 = jrnK (fnP2 K F i0) (fnP2 K F i0 2 0) (fnP2 K F i0 10 i0) (nI 7) := by
        unfold fnP
        rw [oR 2 0 (by decide) (by decide) (by decide) (by decide) (by decide) (by decide) (by decide) (by decide) (nl _ (by decide)), oR 10 i0 (by decide) (by decide) (by decide) (by decide) (by decide) (by decide) (by decide) (by decide) (nl _ (by decide))]
      refine b_X8_finishWorking_104.go C ⟨_, R5.mn, _, R5.mn, _, R5.wk hi w5, trivial, ?_⟩
      refine k_X8_finishWorking_118.go C X (k_enter (d + 3) G6 A1 n (F + 1) (fnP2 K F i0) (mrkL L w) (fnP2 K F i0 2 0) (fnP2 K F i0 10 i0) (nI 7) R5 hj5) (rest := []) rfl rfl rfl (fun _ => ⟨_, _, _, rfl, R5.jr, by decide⟩) (lb rfl) (Rq.of (by omega) (by decide) (by show _ ≤ fnC K F i0; omega) (by show _ ≤ fnC K F i0; omega)) ?_
      rintro r G5 ⟨rfl, A2, R6, hA2⟩
      refine b_X8_finishWorking_121.go C ⟨trivial, ?_⟩
      refine V_vret C X d_X8_finishWorking_145 (by show _ ≤ fnC K F i0; omega) (by show _ ≤ fnC K F i0; omega) ⟨rfl, A2, ?_, hA.tr hA2⟩
      rw [fnF, if_neg h1, fnK, if_neg h1, if_pos hB, fnL, if_neg h1, if_pos hB, hbo, nI_clamp (by omega), eT]
      exact R6
  refine b_X8_finishWorking_0.go C ⟨_, hR.mn, _, hR.wk (by omega) hw, _, hR.wk (by omega) hw, trivial, ?_⟩
  refine k_X8_finishWorking_12.go C X (k_kindFor (d + 4) G A n F K L (K 10 i0) (K 27 i0) hR hpl) (rest := []) rfl rfl rfl (fun _ => ⟨_, _, _, rfl, hR.pl, by decide⟩) (lb rfl) (Rq.of (by omega) (by decide) (Nat.zero_le _) (Nat.zero_le _)) ?_
  rintro r G9 ⟨h9, rfl⟩
  replace h9 := h9.symm
  subst h9
  refine b_X8_finishWorking_15.go C ⟨fun h15 => ⟨trivial, ?_⟩, fun h15 => ⟨trivial, ?_⟩⟩
  · have h15 : ¬ fwK0 K i0 = -1 := h15
    exact tl _ (by rw [fwKd, if_neg (fun z => h15 z.1)]; rfl)
  have h15 : fwK0 K i0 = -1 := h15
  refine b_X8_finishWorking_21.go C ⟨_, hR.wk (by omega) hw, fun h21 => ⟨trivial, ?_⟩, fun h21 => ⟨trivial, ?_⟩⟩
  · have h21 : ¬ K 13 i0 = nI 4 := h21
    exact tl _ (by rw [fwKd, if_neg (fun z => h21 z.2)]; rfl)
  have h21 : K 13 i0 = nI 4 := h21
  refine b_X8_finishWorking_29.go C ⟨_, hR.wk (by omega) hw, _, rfl, trivial, ?_⟩
  exact tl _ (by rw [fwKd, if_pos ⟨h15, h21⟩]; rfl)
end CLN
