/-! a minute, and a run, on both sides -/
section RUNS
variable {n k F w x y : Nat} {K K1 K' : MS} {L L' : KL} {M M1 M' : MS} {t h c b : Nat}
theorem id_iff (hR : Rel n k F K L M) (hI : Inv n k w x y M) (h1c : 1 ≤ c) (hck : c ≤ 12) : idB K c = true ↔ (upN M c = 0 ∨ M 19 (upN M c).toNatClampNeg = nI 3) := by
  have a1 := hI.a.1
  obtain ⟨p1, p2, p3, p4⟩ := hR.upm hI h1c hck
  unfold idB
  rw [decide_eq_true_iff, p1, p2, nI_clamp (by omega), ← nI_0, nI_eq (by omega) (by decide)]
  by_cases c0 : upY M c = 0
  · exact ⟨fun _ => Or.inl c0, fun _ => Or.inl c0⟩
  · have hm : upY M c ∈ plM M c := p3.elim (fun z => absurd z c0) id
    have pp := (hI.p c hck).2.2 _ hm
    have k16 : K 16 (upY M c) = nI 3 ↔ nN M 19 (upY M c) = 3 := by
      rw [hR.nt.eq rfl (by decide), (hR.d _ pp.1 pp.2.1).1]; unfold stt; rw [if_pos pp.2.2.2.1, if_neg (by omega)]
    rw [k16, hI.nt.eq rfl (by decide)]
theorem id_sim : ∀ (q c : Nat) (K M : MS), Rst n k w F K L M → 1 ≤ c → c + q ≤ k + 1 → Rst n k w F (idK q c K) L (idlF q c M)
  | 0, _, _, _, h, _, _ => h
  | q + 1, c, K, M, hS, h1, h2 => by
    have hR := hS.1
    have hI := hS.2.1
    have a1 := hI.a.1
    have a3 := hI.a.2.2.1
    rw [idK, idlF]
    refine id_sim q (c + 1) _ _ ?_ (by omega) (by omega)
    have e := id_iff hR hI h1 (show c ≤ 12 by omega)
    by_cases cc : idB K c = true
    · rw [if_pos cc, if_pos (e.mp cc)]
      have r := hR.ck (K' := up2 K 62 c (K 62 c + nI 1)) (M' := up2 M 49 c (M 49 c + nI 1)) a1 (fun f _ z => up2_f z) (fun f _ z => up2_f z) (fun c' z1 z2 => by
        have pc := hR.p.2.2 c' z1 z2
        rw [up2_f (f := 61) (by decide), up2_f (f := 48) (by decide)]
        refine ⟨pc.1, ?_⟩
        by_cases cc : c' = c
        · subst cc; rw [up2_s, up2_s, pc.2]
        · rw [up2_n (by omega), up2_n (by omega)]; exact pc.2)
      exact hS.wb (FrB.same (fun f hf => up2_f (by omega))) r.1 (hI.cg (hI.nt.upx rfl) (fun f hf => up2_f (fne hf rfl))) (r.2 13 (by decide))
    · rw [if_neg cc, if_neg (fun z => cc (e.mpr z)), up2_id]; exact hS
theorem Rel.clk (hR : Rel n k F K L M) (hn : n ≤ 200) {v : Nat} (hv : v < 2 ^ 31) : Rel n k F (up2 K 2 0 (nI v)) L (up2 M 0 0 (nI v)) := by
  have oK : ∀ f, f ≠ 2 → up2 K 2 0 (nI v) f = K f := fun f h => up2_f h
  have oM : ∀ f, f ≠ 0 → up2 M 0 0 (nI v) f = M f := fun f h => up2_f h
  have els : ∀ f j, isLs f → up2 K 2 0 (nI v) f j = K f j := up_ls (by unfold isLs; omega)
  obtain ⟨r1, r2, r3, r4, r5, r6, r7, r8, r9, r10, r11, r12⟩ := hR
  refine ⟨r1.upn hv, r2.cg els, ⟨?_, ?_, ?_, ?_, ?_⟩, r4.cg hn (fun f hf => oK f (by have := of_decide_eq_true hf; omega)) (fun f hf => oM f (by have := of_decide_eq_true hf; omega)), r5.cg (fun f hf => oK f (by have := of_decide_eq_true hf; omega)) (fun f hf => oM f (by have := of_decide_eq_true hf; omega)), r6.cg hn (fun f hf => oK f (by have := of_decide_eq_true hf; omega)) (fun f hf => oM f (by have := of_decide_eq_true hf; omega)), r7.cg (fun f hf => oK f (by have := of_decide_eq_true hf; omega)) (fun f hf => oM f (by have := of_decide_eq_true hf; omega)), r8.cg (fun c hc => lsL_e (by omega) els) (fun f hf => oK f (by have := of_decide_eq_true hf; omega)) (fun f hf => oM f (by have := of_decide_eq_true hf; omega)), r9.cg (fun f hf => oK f (by have := of_decide_eq_true hf; omega)) (fun f hf => oM f (by have := of_decide_eq_true hf; omega)), r10.cg (fun f hf => oK f (by have := of_decide_eq_true hf; omega)) (fun f hf => oM f (by have := of_decide_eq_true hf; omega)), r11.cg (fun f hf => oM f (by have := of_decide_eq_true hf; omega)), r12.cg (oM 3 (by decide)) (oM 4 (by decide))⟩
  · rw [nN_e (oK 0 (by decide))]; exact r3.1
  · rw [nN_e (oK 1 (by decide))]; exact r3.2.1
  · rw [nN_sn hv, nN_sn hv, vu_s, vu_s]
  · rw [nN_e (oK 3 (by decide)), nN_e (oM 16 (by decide))]; exact r3.2.2.2.1
  · rw [nN_e (oK 5 (by decide))]; exact r3.2.2.2.2
theorem Rst.clk (hS : Rst n k w F K L M) (hw : w + 1 ≤ 10000) : Rst n k (w + 1) F (up2 K 2 0 (nI (w + 1))) L (up2 M 0 0 (nI (w + 1))) := by
  have hI := hS.2.1
  refine hS.wb ⟨fun f hf => up2_f (by have := of_decide_eq_true hf; omega), fun f hf => up2_f (by omega), fun u hu => by rw [nN_f (by decide)] at hu; exact hu, fun g _ => by rw [nN_f (by decide)], by rw [nN_f (by decide)]; exact Nat.le_refl _⟩ (hS.1.clk hI.a.1 (by omega)) (hI.clk hw) (lsL_up (by decide) (by omega))
/-! a minute with nothing due -/
theorem co_id : ∀ (q t : Nat), (∀ u, t ≤ u → u < t + q → ¬ (M 14 u = M 0 0 ∧ M 8 u = 0)) → coF n q t M = M
  | 0, _, _ => rfl
  | q + 1, t, h => by rw [coF, if_neg (h t (by omega) (by omega)), co_id q (t + 1) (fun u u1 u2 => h u (by omega) (by omega))]
theorem lm_id : ∀ (q t : Nat), (∀ u, t ≤ u → u < t + q → ¬ (M 2 u = nI 8 ∧ M 8 u = 0 ∧ M 32 u = M 0 0)) → lmF n q t M = M
  | 0, _, _ => rfl
  | q + 1, t, h => by rw [lmF, if_neg (h t (by omega) (by omega)), lm_id q (t + 1) (fun u u1 u2 => h u (by omega) (by omega))]
theorem ov_id : ∀ (q t : Nat), (∀ u, t ≤ u → u < t + q → ¬ ovrB M u = true) → ovF n q t M = M
  | 0, _, _ => rfl
  | q + 1, t, h => by rw [ovF, if_neg (fun z => h t (by omega) (by omega) z.2), ov_id q (t + 1) (fun u u1 u2 => h u (by omega) (by omega))]
theorem rst_id : ∀ (q t : Nat), (∀ u, t ≤ u → u < t + q → ¬ rstB M u = true) → rstF q t M = M
  | 0, _, _ => rfl
  | q + 1, t, h => by rw [rstF, if_neg (h t (by omega) (by omega)), rst_id q (t + 1) (fun u u1 u2 => h u (by omega) (by omega))]
theorem skip_sim (hS : Rst n k w F K L M) (hm : ¬ mkB L w = true) : Rst n k w F K L (rstM n (lmM n (ovM n (coM n M)))) := by
  have hG := hS.1.g
  have hI := hS.2.1
  have a4 := hI.a.2.2.2.1
  have a7 := hI.a.2.2.2.2.2.2
  have e1 : coM n M = M := co_id n 1 (fun u u1 u2 ⟨z1, z2⟩ => by
    have g := (hG u u1 (by omega) ((hI.nt.z rfl).mp z2)).1 w a4 (by rw [z1, hI.nt 0 0 rfl, a7])
    exact hm g)
  rw [e1]
  have S2 := hS.cg (ovA_nt n 1 M hI.nt) (fun f hf => ovA_o (by omega) n 1 M)
  have e2 : ovM n M = ovA n 1 M := by
    unfold ovM
    refine ov_id n 1 (fun u u1 u2 z => ?_)
    rw [ovr_e (ovA_o (by decide) _ _ _) (ovA_o (by decide) _ _ _) (ovA_o (by decide) _ _ _) (ovA_o (by decide) _ _ _) (ovA_o (by decide) _ _ _)] at z
    obtain ⟨c1, c2, c3, c4⟩ := (ovr_iff hI.nt).mp z
    have g := ((hG u u1 (by omega) c2).2.2 c1).1 c3 (by omega)
    rw [c4, a7] at g
    exact hm g
  rw [e2]
  generalize ovA n 1 M = M2 at *
  have hG := S2.1.g
  have hI := S2.2.1
  have a7 := hI.a.2.2.2.2.2.2
  have e3 : lmM n M2 = M2 := lm_id n 1 (fun u u1 u2 ⟨z1, z2, z3⟩ => by
    have z4 := (hI.nt.e2 rfl rfl).mp z3
    have g := (hG u u1 (by omega) ((hI.nt.z rfl).mp z2)).2.1 ((hI.nt.eq rfl (by decide)).mp z1) (by omega)
    rw [z4, a7] at g
    exact hm g)
  rw [e3]
  have e4 : rstM n M2 = M2 := rst_id n 1 (fun u u1 u2 z => by
    obtain ⟨c1, c2, c3, c4⟩ := (rst_iff hI.nt).mp z
    have g := ((hG u u1 (by omega) c2).2.2 (by omega)).2 c3 (by omega)
    rw [c4, a7] at g
    exact hm g)
  rw [e4]
  exact S2
theorem mn_sim (hS : Rst n k w F K L M) : Rst n k w (mnS n (K, F, L) w).2.1 (mnS n (K, F, L) w).1 (mnS n (K, F, L) w).2.2 (rstM n (lmM n (ovM n (coM n M)))) := by
  unfold mnS
  by_cases hm : mkB L w = true
  · have hm' : mkB (K, F, L).2.2 w = true := hm
    rw [if_pos hm']
    obtain ⟨S1, e1⟩ := co_sim n 1 K F M hS (Nat.le_refl _) (by omega)
    show Rst n k w (lpF epS n 1 (lpF (lmS n) n 1 (lpF (twS n) n 1 (lpF (coS n) n 1 (K, F, L))))).2.1 (lpF epS n 1 (lpF (lmS n) n 1 (lpF (twS n) n 1 (lpF (coS n) n 1 (K, F, L))))).1 (lpF epS n 1 (lpF (lmS n) n 1 (lpF (twS n) n 1 (lpF (coS n) n 1 (K, F, L))))).2.2 (rstF n 1 (lmF n n 1 (ovM n (coF n n 1 M))))
    generalize lpF (coS n) n 1 (K, F, L) = Z1 at *
    obtain ⟨K1, F1, L1⟩ := Z1
    have e1' : L1 = L := e1
    subst e1'
    have S2 := ovm_sim S1
    generalize lpF (twS n) n 1 (K1, F1, L1) = Z2 at *
    obtain ⟨K2, F2, L2⟩ := Z2
    obtain ⟨S3, e3⟩ := lm_sim n 1 K2 F2 _ S2 (Nat.le_refl _) (by omega)
    generalize lpF (lmS n) n 1 (K2, F2, L2) = Z3 at *
    obtain ⟨K3, F3, L3⟩ := Z3
    have e3' : L3 = L2 := e3
    subst e3'
    obtain ⟨S4, e4⟩ := ep_sim n 1 K3 F3 _ S3 (Nat.le_refl _) (by omega)
    rw [e4]
    exact S4
  · have hm' : ¬ mkB (K, F, L).2.2 w = true := hm
    rw [if_neg hm']
    exact skip_sim hS hm
theorem rn1_sim (hS : Rst n k w F K L M) (hw : w + 1 ≤ 10000) : Rst n k (w + 1) (rnS9 n k (K, F, L) w).2.1 (rnS9 n k (K, F, L) w).1 (rnS9 n k (K, F, L) w).2.2 (rnS n k w M) := by
  unfold rnS9 rnS tkS idlM
  have S1 := mn_sim hS
  generalize mnS n (K, F, L) w = Z1 at *
  obtain ⟨K1, F1, L1⟩ := Z1
  have S2 := tn_sim k 1 K1 F1 L1 _ S1 (Nat.le_refl _) (by omega)
  generalize lpF (tcS n) k 1 (K1, F1, L1) = Z2 at *
  obtain ⟨K2, F2, L2⟩ := Z2
  exact (id_sim k 1 K2 _ S2 (Nat.le_refl _) (by omega)).clk hw
theorem rnQ_sim : ∀ (q w : Nat) (K : MS) (F : Nat) (L : KL) (M : MS), Rst n k w F K L M → w + q ≤ 10000 → Rst n k (w + q) (rnQ n k q w (K, F, L)).2.1 (rnQ n k q w (K, F, L)).1 (rnQ n k q w (K, F, L)).2.2 (rnF n k q w M)
  | 0, w, _, _, _, _, h, _ => h
  | q + 1, w, K, F, L, M, hS, hw => by
    rw [rnQ, rnF]
    have S1 := rn1_sim hS (by omega)
    generalize rnS9 n k (K, F, L) w = Z1 at *
    obtain ⟨K1, F1, L1⟩ := Z1
    have r := rnQ_sim q (w + 1) K1 F1 L1 _ S1 (by omega)
    rw [show w + (q + 1) = w + 1 + q by omega]
    exact r
theorem nI_subN {a w : Nat} (h : w ≤ a) : nI a - nI w = nI (a - w) := by
  have e := nI_add (a - w) w
  rw [Nat.sub_add_cancel h] at e
  rw [← e, Int32.add_sub_cancel]
theorem rnB_eq (hR : Rel n k F K L M) (hI : Inv n k w x y M) (v : Int32) : rnB K v = runB M v ∧ (runB M v = true → ∃ a, v = nI a ∧ w ≤ a ∧ a ≤ 10000) := by
  obtain ⟨a1, a2, a3, a4, a5, a6, a7⟩ := hI.a
  have e0 : M 0 0 = nI w := by rw [hI.nt 0 0 rfl, a7]
  unfold rnB runB
  rw [hR.eq2 hI, e0]
  by_cases hv : nI w ≤ v
  · have hn : ¬ v < 0 := fun z => by
      rw [Int32.le_iff_toInt_le, nI_toInt (by omega)] at hv
      rw [Int32.lt_iff_toInt_lt] at z
      have : (0 : Int32).toInt = 0 := by decide
      omega
    obtain ⟨a, ha, rfl⟩ := nI_of hn
    have hwa : w ≤ a := (nI_leI (by omega) ha).mp hv
    have e4 : nI w + nI 400 = nI (w + 400) := nI_add _ _
    have es : nI a - nI w = nI (a - w) := nI_subN hwa
    rw [e4, es]
    refine ⟨decide_eq_decide.mpr ?_, fun z => ⟨a, rfl, hwa, (nI_leI ha (by decide)).mp (of_decide_eq_true z).1.2⟩⟩
    by_cases c : 10000 < w + 400
    · rw [if_pos ((nI_ltI (by decide) (by omega)).mpr c), nI_leI (by omega) ha, nI_leI ha (by decide), nI_leI (by omega) (by decide)]; omega
    · rw [if_neg (fun z => c ((nI_ltI (by decide) (by omega)).mp z)), nI_leI (by omega) ha, nI_leI (b := w + 400) ha (by omega), nI_leI (b := 10000) ha (by decide), nI_leI (by omega) (by decide)]; omega
  · have z1 : ¬ (nI w ≤ v ∧ v ≤ if nI 10000 < nI w + nI 400 then nI 10000 else nI w + nI 400) := fun z => hv z.1
    have z2 : ¬ ((nI w ≤ v ∧ v ≤ nI 10000) ∧ v - nI w ≤ nI 400) := fun z => hv z.1.1
    rw [decide_eq_false z1, decide_eq_false z2]
    exact ⟨rfl, fun z => by cases z⟩
theorem run_sim (hS : Rst n k w F K L M) (v : Int32) : ∃ w', Rst n k w' (rnE n k K F L v).2.1 (rnE n k K F L v).1 (rnE n k K F L v).2.2 (runM n k M v) := by
  obtain ⟨e, ha⟩ := rnB_eq hS.1 hS.2.1 v
  unfold rnE runM
  rw [e]
  by_cases c : runB M v = true
  · rw [if_pos c, if_pos c]
    obtain ⟨a, rfl, h1, h2⟩ := ha c
    have e1 : nN K 2 0 = w := by rw [hS.1.a.2.2.1]; exact hS.2.1.a.2.2.2.2.2.2
    have e2 : nN M 0 0 = w := hS.2.1.a.2.2.2.2.2.2
    rw [e1, e2, nI_clamp (by omega)]
    exact ⟨_, rnQ_sim (a - w) w K F L M hS (by omega)⟩
  · rw [if_neg c, if_neg c]
    exact ⟨w, hS⟩
end RUNS
