/-! limits, on both sides -/
section RNBS
variable {n k F w x y : Nat} {K K1 K' : MS} {L L' : KL} {M M1 M' : MS} {t h : Nat}
def lmR : Rs := rsF (nI 5) 0 0 (fun _ => 0)
theorem lm_eq (K : MS) (F t : Nat) : lmK K F t = resK (addK K 13 t) t F lmR := by
  have e0 : lmK0 K F t = resK K t F lmR := rfl
  have k10 : addK K 13 t 10 t = K 10 t := add_o (by decide) (by omega)
  unfold lmK
  rw [e0]
  have el : ∀ f j, isLs f → resK K t F lmR f j = K f j := res_ls
  have x63 : resK K t F lmR 63 13 = K 63 13 := res_o (by decide) (by decide) (by decide) (by decide) (by decide)
  have x65 : resK K t F lmR 65 13 = K 65 13 := res_o (by decide) (by decide) (by decide) (by decide) (by decide)
  funext f j
  by_cases hA : f = 4000 + 13 ∨ ((f = 63 ∨ f = 64 ∨ f = 65 ∨ f = 67) ∧ j = 13)
  · have rhs : resK (addK K 13 t) t F lmR f j = addK K 13 t f j := res_o (by omega) (by omega) (by omega) (by omega) (by omega)
    rw [rhs]
    unfold addK
    rw [lsL_e (by decide) el, cpK_e el, x63, x65]
    unfold lsU
    by_cases h1 : f = 4000 + 13
    · rw [if_pos h1, if_pos h1]
    · rw [if_neg h1, if_neg h1]
      by_cases h2 : f = 63 ∧ j = 13
      · rw [if_pos h2, if_pos h2]
      · rw [if_neg h2, if_neg h2]
        by_cases h3 : f = 64 ∧ j = 13
        · rw [if_pos h3, if_pos h3]
        · rw [if_neg h3, if_neg h3]
          by_cases h4 : f = 65 ∧ j = 13
          · rw [if_pos h4, if_pos h4]
          · rw [if_neg h4, if_neg h4]
            have h5 : f = 67 ∧ j = 13 := by omega
            rw [if_pos h5, if_pos h5]
  · have hA1 : f ≠ 4000 + 13 := fun z => hA (Or.inl z)
    have hA2 : ¬ ((f = 63 ∨ f = 64 ∨ f = 65 ∨ f = 67) ∧ j = 13) := fun z => hA (Or.inr z)
    rw [add_o hA1 hA2]
    show failK (newFK K (F + 1) (nI 5) (K 10 t) 0 0 (fun _ => 0)) t (nI (F + 1)) f j = failK (newFK (addK K 13 t) (F + 1) (nI 5) (addK K 13 t 10 t) 0 0 (fun _ => 0)) t (nI (F + 1)) f j
    rw [k10]
    unfold failK
    by_cases h18 : f = 18 ∧ j = t
    · obtain ⟨rfl, rfl⟩ := h18; rw [up2_s, up2_s]
    · rw [up2_n h18, up2_n h18]
      by_cases h16 : f = 16 ∧ j = t
      · obtain ⟨rfl, rfl⟩ := h16; rw [up2_s, up2_s]
      · rw [up2_n h16, up2_n h16]
        unfold newFK
        rw [add_o hA1 hA2]
theorem lm_sim : ∀ (q t : Nat) (K : MS) (F : Nat) (M : MS), Rst n k w F K L M → 1 ≤ t → t + q ≤ n + 1 → Rst n k w (lpF (lmS n) q t (K, F, L)).2.1 (lpF (lmS n) q t (K, F, L)).1 L (lmF n q t M) ∧ (lpF (lmS n) q t (K, F, L)).2.2 = L
  | 0, _, _, _, _, h, _, _ => ⟨h, rfl⟩
  | q + 1, t, K, F, M, ⟨hR, hI, hN, h13, h17, hQ⟩, h1t, hq => by
    have ht : t ≤ n := by omega
    have a1 := hI.a.1
    have bd := hI.bd (by decide) (by decide)
    have hF0 := hR.f.1
    have rs := hR.s t h1t ht
    have c : (K 11 t = nI 12 ∧ K 14 t = K 2 0 ∧ ¬ nI 5 ≤ K 16 t) ↔ (M 2 t = nI 8 ∧ M 8 t = 0 ∧ M 32 t = M 0 0) := by
      have e11 : K 11 t = nI 12 ↔ nN M 2 t = 8 := by
        rw [hR.nt.eq rfl (by decide), rs.2.1]
        have := (hI.s.2 t h1t ht).1.1
        unfold fm
        split
        · omega
        · split <;> omega
      rw [e11, hI.nt.eq rfl (by decide), hR.eq2 hI, (hR.k16 hI h1t ht).1, hI.nt.z rfl, rs.2.2.2.2.2.1]
      constructor
      · rintro ⟨z1, z2, z3⟩
        rw [if_neg (by omega), if_pos z1] at z2
        exact ⟨z1, Classical.byContradiction z3, z2⟩
      · rintro ⟨z1, z2, z3⟩
        refine ⟨z1, ?_, fun c => c z2⟩
        rw [if_neg (by omega), if_pos z1]; exact z3
    rw [lpF, lmF]
    by_cases hc : M 2 t = nI 8 ∧ M 8 t = 0 ∧ M 32 t = M 0 0
    · rw [if_pos hc]
      have ho : nN M 8 t = 0 := (hI.nt.z rfl).mp hc.2.1
      have ec : lmS n (K, F, L) t = conT n (lmK K F t, F + 1, L) t := by unfold lmS; rw [if_pos (c.mpr hc)]
      rw [ec]
      obtain ⟨R0, l0⟩ := hR.add13 a1 h13 h1t ht
      have I0 := hI.up13 h1t ht
      have R1 : Rel n k F (addK K 13 t) L (up2 M 13 t (nI 1)) := R0.mcg a1 (fun f _ b _ => up2_f b)
      have e38 : nN (up2 M 13 t (nI 1)) 38 0 = F := by rw [nN_f (by decide)]; exact hF0
      have ho1 : nN (up2 M 13 t (nI 1)) 8 t = 0 := by rw [nN_f (by decide)]; exact ho
      have NF := nf_E (M := up2 M 13 t (nI 1)) (kd := 5) (at' := t) (ca := -1) I0.nt (by decide) (by omega) (by rw [e38]; omega)
      rw [e38] at NF
      have hrs : RsM n F (up2 M 13 t (nI 1)) (lmE M t) t lmR := by
        refine Or.inr (Or.inr (Or.inr ⟨_, 5, -1, [], NF, ?_, ?_, by decide, by decide, Or.inl rfl, fun o q => by cases q⟩))
        · unfold lmE; rw [hF0]
        · unfold lmR; rw [sup0, show (-1 + nI 1 : Int32) = 0 by decide +kernel]; rfl
      obtain ⟨z0, z1, z2, z3, z4, z5⟩ := res_sim R1 I0 (by decide) h1t ht ho1 hrs (Or.inr rfl) (by rw [l0]; simp)
      have I2 := AskR.inv (Or.inr (Or.inr z2)) I0 h1t ht ho1
      have e8t : nN (lmE M t) 8 t = 2 := by
        have hE := z5
        have hF1 : nN (nteK (resK (addK K 13 t) t F lmR) t) 16 t = 6 := by
          have EK := z3
          rw [(EK.d t h1t ht).1] at z5
          unfold stt at z5
          rw [(EK.d t h1t ht).1]; unfold stt
          rw [if_neg z2.e8]
          have : nN (lmE M t) 8 t = 2 := by
            have I1 := NF.inv I0 (by decide) (by decide) (Or.inl rfl) (fun o q => by cases q)
            have w := wf_E (t := t) (v := F) I1 (by decide) (by decide) h1t ht (by rw [nN_e (NF.2.2.2.2.2.2.2.2.2.2 8 rfl)]; exact ho1) (by omega)
            have e : lmE M t = wfM (newFM (up2 M 13 t (nI 1)) F (nI 5) (nI t) (-1)) t (nI F) := by unfold lmE; rw [hF0]
            rw [e, w.1.1.1, vu_s]
          rw [this]
        omega
      rw [l0, if_neg (by omega), List.append_nil] at z4
      have e10 := z2.e10
      have e16 := z2.e16
      rw [show nN (up2 M 13 t (nI 1)) 16 0 = nN M 16 0 by rw [nN_f (by decide)]] at e16 e10
      have m13 : nN (lmE M t) 13 = va_up (nN M 13) t 1 := by rw [nN_e e10.2.2.1, nN_sn (by decide)]
      have D2 : DR (nN M 16 0) (nteK (resK (addK K 13 t) t F lmR) t) (lmE M t) := by
        unfold DR
        rw [z4, e16, show nN M 16 0 + 1 - nN M 16 0 = 1 by omega]
        unfold enR
        rw [List.range'_one, List.map_cons, List.map_nil, e10.1, vu_s, List.filter_cons, if_pos, List.filter_nil]
        rw [due_iff e10.2.2.2, m13, vu_s]
        exact Or.inr (by decide)
      have st := z2.st
      have hN2 : Nd n (lmE M t) := by
        intro u u1 u2 u3
        have hu : u ≠ t := fun z => z2.e8 (z ▸ u3)
        rw [(st.2.2.1 u hu).1, nN_f (by decide)] at u3
        rw [m13, vu_n hu, z2.e26 hu, nN_f (by decide)]
        exact hN u u1 u2 u3
      rw [lm_eq]
      have r := con_sim (n := n) (k := k) (w := w) (K := resK (addK K 13 t) t F lmR) (F := F + 1) (L := L) (M := lmE M t) (d := nN M 16 0) (i := t) ⟨z3, I2, hN2, D2, by rw [e16]; omega⟩ (by rw [nN_e z2.fr.2.2.1, nN_f (by decide)]; exact h17) h1t ht (fun u u1 u2 => by
        by_cases hu : u = t
        · subst hu; exact Qu.ended z3 I2 h1t ht z2.e8
        · refine (hQ u u1 (by omega)).keep hR hI z3 I2 u1 (by omega) (fun f hf => (st.1 f hf).trans (up2_f (by have := of_decide_eq_true hf; omega))) (fun z => by rw [(st.2.2.1 u hu).1, nN_f (by decide)] at z; exact z) (fun _ z => by rw [nN_e st.2.1, nN_f (by decide)] at z; exact z) (fun s hs => ?_) (fun s hs _ => ?_) (fun g hg => ?_) ?_
          · have hst : s ≠ t := fun z => by have := inL_b hI.s u1 (show u ≤ n by omega) hs; omega
            rw [(st.2.2.1 s hst).1, nN_f (by decide)]
          · have hst : s ≠ t := fun z => by have := inL_b hI.s u1 (show u ≤ n by omega) hs; omega
            rw [(st.2.2.1 s hst).2, nN_f (by decide)]
          · rw [st.2.2.2.1 g (by rw [nN_f (by decide)]; exact hg), nN_f (by decide)]
          · have := st.2.2.2.2.1; rw [nN_f (by decide)] at this; exact this)
      exact lm_sim q (t + 1) _ _ _ r (by omega) (by omega)
    · rw [if_neg hc]
      have ec : lmS n (K, F, L) t = (K, F, L) := by unfold lmS; rw [if_neg (fun z => hc (c.mp z))]
      rw [ec]
      exact lm_sim q (t + 1) K F M ⟨hR, hI, hN, h13, h17, hQ⟩ (by omega) (by omega)
end RNBS
