/-! a minute's parts on both sides: callings off, limits, pauses' ends -/
section RNAS
variable {n k F w x y : Nat} {K K1 K' : MS} {L L' : KL} {M M1 M' : MS} {t h : Nat}
theorem DR.nil (h13 : lsL K 13 = []) : DR (nN M 16 0) K M := by
  unfold DR; rw [h13, Nat.sub_self]; rfl
/-- an end out of a state at rest, and what it brings about -/
theorem end_con {r : Rs} (hR : Rel n k F K L M) (hI : Inv n k w 0 y M) (hy : y ≤ 1) (hN : Nd n M) (h13 : lsL K 13 = []) (h17 : nN M 17 0 = nN M 16 0) (h1t : 1 ≤ t) (ht : t ≤ n) (ho : nN M 8 t = 0) (hr : RsM n F M M' t r) (hI' : Inv n k w 0 0 M') (hQ : ∀ u, 1 ≤ u → u < t → Rel n k (resF F r) (nteK (resK K t F r) t) L M' → EndR M M' t → Qu (nteK (resK K t F r) t) u) :
    Rst n k w (conS n (resK K t F r, resF F r) t).2 (conS n (resK K t F r, resF F r) t).1 L (folM n M' t) ∧ nI 5 ≤ resK K t F r 16 t ∧ EndR M M' t ∧ Rel n k (resF F r) (nteK (resK K t F r) t) L M' := by
  have a1 := hI.a.1
  obtain ⟨z0, z1, z2, z3, z4, z5⟩ := res_sim hR hI hy h1t ht ho hr (Or.inl (by rw [h13]; simp)) (by rw [h13]; simp)
  have hnd := (hN t h1t ht ho).1
  have hdue : dueB M' t = true ↔ nN M' 8 t = 3 := by
    rw [due_iff z2.e10.2.2.2, nN_e z2.e10.2.2.1, hnd]
    exact ⟨fun z => z.elim id (fun z => absurd rfl z), Or.inl⟩
  have D2 : DR (nN M 16 0) (nteK (resK K t F r) t) M' := (DR.nil h13).end hI (Nat.le_refl _) z2 ho (by
    rw [z4]
    by_cases c : nN M' 8 t = 3
    · rw [if_pos c, if_pos (hdue.mpr c)]
    · rw [if_neg c, if_neg (fun z => c (hdue.mp z))])
  refine ⟨con_sim (d := nN M 16 0) ⟨z3, hI', hN.end z2, D2, by rw [z2.e16]; omega⟩ (by rw [nN_e z2.fr.2.2.1]; exact h17) h1t ht (fun u u1 u2 => ?_), z1, z2, z3⟩
  by_cases hu : u = t
  · subst hu; exact Qu.ended z3 hI' h1t ht z2.e8
  · exact hQ u u1 (by omega) z3 z2
/-- the same, out of a state at rest itself -/
theorem Rst.end {r : Rs} (hS : Rst n k w F K L M) (h1t : 1 ≤ t) (ht : t ≤ n) (ho : nN M 8 t = 0) (hr : RsM n F M M' t r) : Rst n k w (conS n (resK K t F r, resF F r) t).2 (conS n (resK K t F r, resF F r) t).1 L (folM n M' t) ∧ nI 5 ≤ resK K t F r 16 t := by
  obtain ⟨hR, hI, hN, h13, h17, hQ⟩ := hS
  have a1 := hI.a.1
  have z2 := (res_sim hR hI (by decide) h1t ht ho hr (Or.inl (by rw [h13]; simp)) (by rw [h13]; simp)).2.2.1
  have I2 := AskR.inv (Or.inr (Or.inr z2)) hI h1t ht ho
  have r := end_con hR hI (by decide) hN h13 h17 h1t ht ho hr I2 (fun u u1 u2 R' E' => (hQ u u1 (by omega)).ask hR hI R' I2 (Or.inr (Or.inr E')) u1 (by omega) (by omega) (fun z => by have := inL_b hI.s u1 (show u ≤ n by omega) z; omega))
  exact ⟨r.1, r.2.1⟩
theorem Rel.eq2 (hR : Rel n k F K L M) (hI : Inv n k w x y M) : K 2 0 = M 0 0 := by rw [hR.nt 2 0 rfl, hI.nt 0 0 rfl, hR.a.2.2.1]
theorem co_sim : ∀ (q t : Nat) (K : MS) (F : Nat) (M : MS), Rst n k w F K L M → 1 ≤ t → t + q ≤ n + 1 → Rst n k w (lpF (coS n) q t (K, F, L)).2.1 (lpF (coS n) q t (K, F, L)).1 L (coF n q t M) ∧ (lpF (coS n) q t (K, F, L)).2.2 = L
  | 0, _, _, _, _, h, _, _ => ⟨h, rfl⟩
  | q + 1, t, K, F, M, hS, h1t, hq => by
    have hR := hS.1
    have hI := hS.2.1
    have ht : t ≤ n := by omega
    have c : (K 21 t = K 2 0 ∧ ¬ nI 5 ≤ K 16 t) ↔ (M 14 t = M 0 0 ∧ M 8 t = 0) := by
      rw [(hR.d t h1t ht).2.2.2.2.2.1, hR.eq2 hI, (hR.k16 hI h1t ht).1, hI.nt.z rfl]
      exact ⟨fun z => ⟨z.1, Classical.byContradiction z.2⟩, fun z => ⟨z.1, fun c => c z.2⟩⟩
    rw [lpF, coF]
    by_cases hc : M 14 t = M 0 0 ∧ M 8 t = 0
    · rw [if_pos hc]
      have ec : coS n (K, F, L) t = conT n (offK K t, F, L) t := by unfold coS; rw [if_pos (c.mpr hc)]
      rw [ec]
      have r := (hS.end (r := rsO) h1t ht ((hI.nt.z rfl).mp hc.2) (Or.inr (Or.inr (Or.inl ⟨rfl, rfl⟩)))).1
      exact co_sim q (t + 1) _ _ _ r (by omega) (by omega)
    · rw [if_neg hc]
      have ec : coS n (K, F, L) t = (K, F, L) := by unfold coS; rw [if_neg (fun z => hc (c.mp z))]
      rw [ec]
      exact co_sim q (t + 1) K F M hS (by omega) (by omega)
theorem ep_sim : ∀ (q t : Nat) (K : MS) (F : Nat) (M : MS), Rst n k w F K L M → 1 ≤ t → t + q ≤ n + 1 → Rst n k w (lpF epS q t (K, F, L)).2.1 (lpF epS q t (K, F, L)).1 L (rstF q t M) ∧ (lpF epS q t (K, F, L)).2.2 = L
  | 0, _, _, _, _, h, _, _ => ⟨h, rfl⟩
  | q + 1, t, K, F, M, hS, h1t, hq => by
    obtain ⟨hR, hI, hN, h13, h17, hQ⟩ := hS
    have ht : t ≤ n := by omega
    have k16 := hR.k16 hI h1t ht
    have c : (isWK K t = true ∧ K 16 t = nI 4 ∧ K 25 t = K 2 0) ↔ rstB M t = true := by
      rw [rst_iff hI.nt, isW_iff hR hI h1t ht, hR.nt.eq rfl (by decide), (hR.d t h1t ht).1, hR.nt.e2 rfl rfl, hR.a.2.2.1]
      constructor
      · rintro ⟨z1, z2, z3⟩
        unfold stt at z2
        by_cases ho : nN M 8 t = 0
        · rw [if_pos ho, if_neg (by omega)] at z2
          have q7 := ((hR.w t h1t ht z1).2.2.1 ho).2.2 z2
          have d2 := ((hI.d t h1t ht).2.2.2.2 z1).2 ho
          exact ⟨(d2.2.2.2.1 z2).1, ho, z2, by omega⟩
        · rw [if_neg ho] at z2; omega
      · rintro ⟨z1, z2, z3, z4⟩
        have q7 := ((hR.w t h1t ht (by omega)).2.2.1 z2).2.2 z3
        refine ⟨by omega, ?_, by omega⟩
        unfold stt; rw [if_pos z2, if_neg (by omega)]; exact z3
    rw [lpF, rstF]
    by_cases hc : rstB M t = true
    · rw [if_pos hc]
      have ec : epS (K, F, L) t = (rdyK K t, F, L) := by unfold epS; rw [if_pos (c.mpr hc)]
      rw [ec]
      obtain ⟨z1, z2, z3, z4⟩ := (rst_iff hI.nt).mp hc
      obtain ⟨R1, l13⟩ := hR.rdy hI h1t ht z2 (by omega) (Or.inr z3)
      have I1 := hI.rdy h1t ht z2 (by omega) (Or.inr z3)
      have o : ∀ f, f ≠ 19 → f ≠ 20 → up2 (up2 M 19 t (nI 1)) 20 t (M 0 0) f = M f := fun f a b => by rw [up2_f b, up2_f a]
      have m19 : nN (up2 (up2 M 19 t (nI 1)) 20 t (M 0 0)) 19 = va_up (nN M 19) t 1 := by rw [nN_f (by decide), nN_sn (by decide)]
      refine ep_sim q (t + 1) _ _ _ ⟨R1, I1, fun u a b c => ?_, by rw [l13, h13], by rw [nN_e (o 17 (by decide) (by decide)), nN_e (o 16 (by decide) (by decide))]; exact h17, fun u u1 u2 => ?_⟩ (by omega) (by omega)
      · rw [nN_e (o 8 (by decide) (by decide))] at c
        rw [nN_e (o 13 (by decide) (by decide)), nN_e (o 26 (by decide) (by decide))]; exact hN u a b c
      · refine (hQ u u1 u2).keep hR hI R1 I1 u1 u2 (fun f hf => o f (by have := of_decide_eq_true hf; omega) (by have := of_decide_eq_true hf; omega)) (fun z => by rw [nN_e (o 8 (by decide) (by decide))] at z; exact z) (fun _ z => ?_) (fun s _ => by rw [nN_e (o 8 (by decide) (by decide))]) (fun s _ _ => by rw [nN_e (o 12 (by decide) (by decide))]) (fun g _ => by rw [nN_e (o 33 (by decide) (by decide))]) (by rw [nN_e (o 38 (by decide) (by decide))]; exact Nat.le_refl _)
        rw [m19] at z
        by_cases hu : u = t
        · subst hu; rw [vu_s] at z; omega
        · rw [vu_n hu] at z; exact z
    · rw [if_neg hc]
      have ec : epS (K, F, L) t = (K, F, L) := by unfold epS; rw [if_neg (fun z => hc (c.mp z))]
      rw [ec]
      exact ep_sim q (t + 1) K F M ⟨hR, hI, hN, h13, h17, hQ⟩ (by omega) (by omega)
/-- dues begun with a limit -/
theorem Rel.add13 (hR : Rel n k F K L M) (hn : n ≤ 200) (h13 : lsL K 13 = []) (h1t : 1 ≤ t) (ht : t ≤ n) : Rel n k F (addK K 13 t) L M ∧ lsL (addK K 13 t) 13 = [t] := by
  have e : ∀ f, f < 63 ∨ (67 < f ∧ f < 4000) ∨ 10000 ≤ f → addK K 13 t f = K f := fun f hf => ls_fe (by decide) hf (add_e 13 t)
  have el : ∀ c, c ≤ 12 → lsL (addK K 13 t) c = lsL K c := fun c hc => (oth_L (n := n) (i := 0) (by omega) (by decide) (by omega) (add_e 13 t)).1
  have hl := add_L (hR.la 13 (by decide)).1 (show n ≤ 201 by omega) (by rw [h13]; simp) ⟨h1t, ht⟩
  rw [h13] at hl
  have LA2 : LA (addK K 13 t) n := hR.la.add (by omega) (by decide) ⟨h1t, ht⟩ (by rw [h13]; simp) (by rw [h13]; simp)
  obtain ⟨r1, r2, r3, r4, r5, r6, r7, r8, r9, r10, r11, r12⟩ := hR
  exact ⟨⟨r1.ls (by decide) (add_e 13 t), LA2, r3.cg (fun f hf => e f (by have := of_decide_eq_true hf; omega)) (fun _ _ => rfl), r4.cg hn (fun f hf => e f (by have := of_decide_eq_true hf; omega)) (fun _ _ => rfl), r5.cg (fun f hf => e f (by have := of_decide_eq_true hf; omega)) (fun _ _ => rfl), r6.cg hn (fun f hf => e f (by have := of_decide_eq_true hf; omega)) (fun _ _ => rfl), r7.cg (fun f hf => e f (by have := of_decide_eq_true hf; omega)) (fun _ _ => rfl), r8.cg el (fun f hf => by have := of_decide_eq_true hf; exact e f (by omega)) (fun _ _ => rfl), r9.cg (fun f hf => e f (by have := of_decide_eq_true hf; omega)) (fun _ _ => rfl), r10.cg (fun f hf => e f (by have := of_decide_eq_true hf; omega)) (fun _ _ => rfl), r11, r12⟩, hl⟩
end RNAS
