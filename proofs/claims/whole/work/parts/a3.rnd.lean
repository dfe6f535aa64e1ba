/-! works that are over, on both sides -/
section RNDS
variable {n k F w x y : Nat} {K K1 K' : MS} {L L' : KL} {M M1 M' : MS} {t h : Nat} {m3 m4 : Nat → Int32}
theorem mt_0 (hR : Rel n k F K L M) (hI : Inv n k w x y M) (h1t : 1 ≤ t) (ht : t ≤ n) (h4 : 1 ≤ nN M 4 t) (he : nN M 8 (iN M t 0) = 0) : mtK K F t = mtW K t ∧ mtN K F t = F ∧ mtL K L t = L := by
  have hm : iN M t 0 ∈ inL M t := inL_mem.mpr ⟨0, by omega, rfl⟩
  have b := inL_b hI.s h1t ht hm
  have k16 := (hR.k16 hI b.1 (by omega)).2.2
  have z5 : ¬ K 16 (iN M t 0) = nI 5 := fun z => by have := (k16 1 (by decide) (by decide)).mp z; omega
  have z6 : ¬ K 16 (iN M t 0) = nI 6 := fun z => by have := (k16 2 (by decide) (by decide)).mp z; omega
  have z7 : ¬ K 16 (iN M t 0) = nI 7 := fun z => by have := (k16 3 (by decide) (by decide)).mp z; omega
  unfold mtK mtN mtL
  rw [iK_iN hR h1t ht (by omega), if_neg z5, if_neg z6, if_neg z7, if_neg z6, if_neg z5]
  exact ⟨rfl, rfl, rfl⟩
theorem mt_cases (hR : Rel n k F K L M) (hI : Inv n k w 0 y M) (hy : y ≤ 1) (h1t : 1 ≤ t) (ht : t ≤ n) (ho : nN M 8 t = 0) (h4 : 1 ≤ nN M 4 t) (he : nN M 8 (iN M t 0) ≠ 0) :
    (nN M 8 (iN M t 0) = 1 ∧ mtK K F t = bsK K t (K 2 0) ∧ mtN K F t = F ∧ mtL K L t = mrkL L (bsO K t).toNatClampNeg) ∨ (nN M 8 (iN M t 0) ≠ 1 ∧ ∃ r, RsM n F M (gonE M t) t r ∧ mtK K F t = resK K t F r ∧ mtN K F t = resF F r ∧ mtL K L t = L) := by
  have hm : iN M t 0 ∈ inL M t := inL_mem.mpr ⟨0, by omega, rfl⟩
  have b := inL_b hI.s h1t ht hm
  have bd := hI.bd (by decide) hy
  have a1 := hI.a.1
  have hF0 := hR.f.1
  have b3 := (hI.in8 h1t ht hm).2
  have k16 := (hR.k16 hI b.1 (show iN M t 0 ≤ n by omega)).2.2
  have m8 : ∀ v, v < 2 ^ 31 → (M 8 (iN M t 0) = nI v ↔ nN M 8 (iN M t 0) = v) := fun v hv => hI.nt.eq rfl hv
  have k10 : K 10 t = nI t := by rw [hR.nt 10 t rfl, (hR.s t h1t ht).1]
  unfold mtK mtN mtL
  rw [iK_iN hR h1t ht (by omega)]
  have : nN M 8 (iN M t 0) = 1 ∨ nN M 8 (iN M t 0) = 2 ∨ nN M 8 (iN M t 0) = 3 := by omega
  rcases this with c | c | c
  · have z5 : K 16 (iN M t 0) = nI 5 := (k16 1 (by decide) (by decide)).mpr c
    have z6 : ¬ K 16 (iN M t 0) = nI 6 := fun z => by have := (k16 2 (by decide) (by decide)).mp z; omega
    rw [if_pos z5, if_neg z6, if_pos z5]
    exact Or.inl ⟨c, rfl, rfl, rfl⟩
  · have z5 : ¬ K 16 (iN M t 0) = nI 5 := fun z => by have := (k16 1 (by decide) (by decide)).mp z; omega
    have z6 : K 16 (iN M t 0) = nI 6 := (k16 2 (by decide) (by decide)).mpr c
    have f0 := hI.f12 b.1 (show iN M t 0 ≤ n by omega) c
    have k18 := (hR.k18z b.1 (show iN M t 0 ≤ n by omega)).2 c
    have NF := nf_E (M := M) (kd := 12) (at' := t) (ca := M 12 (iN M t 0)) hI.nt (by decide) (by omega) (by omega)
    rw [if_neg z5, if_pos z6, if_pos z6, if_neg z5]
    refine Or.inr ⟨by omega, rsF (nI 12) (M 12 (iN M t 0) + nI 1) 0 (supL []), ?_, ?_, rfl, rfl⟩
    · refine Or.inr (Or.inr (Or.inr ⟨_, 12, M 12 (iN M t 0), [], NF, ?_, rfl, by decide, by decide, Or.inr ⟨_, by omega, f0.2⟩, fun o q => by cases q⟩))
      unfold gonE
      rw [if_pos ((m8 2 (by decide)).mpr c), hF0]
    · show mtF K F t = failK (newFK K (F + 1) (nI 12) (K 10 t) (M 12 (iN M t 0) + nI 1) 0 (supL [])) t (nI (F + 1))
      unfold mtF
      rw [iK_iN hR h1t ht (by omega), ← sup0, hR.nt 18 _ rfl, k18, f0.2, nI_add]
  · have z5 : ¬ K 16 (iN M t 0) = nI 5 := fun z => by have := (k16 1 (by decide) (by decide)).mp z; omega
    have z6 : ¬ K 16 (iN M t 0) = nI 6 := fun z => by have := (k16 2 (by decide) (by decide)).mp z; omega
    have z7 : K 16 (iN M t 0) = nI 7 := (k16 3 (by decide) (by decide)).mpr c
    rw [if_neg z5, if_neg z6, if_pos z7, if_neg z6, if_neg z5]
    refine Or.inr ⟨by omega, rsO, Or.inr (Or.inr (Or.inl ⟨rfl, ?_⟩)), rfl, rfl, rfl⟩
    unfold gonE
    rw [if_neg (fun z => by have := (m8 2 (by decide)).mp z; omega)]
/-- a working that is over -/
theorem tw_cases (hR : Rel n k F K L M) (hI : Inv n k w 0 0 M) (hN : Nd n M) (h1t : 1 ≤ t) (ht : t ≤ n) (hov : ovrB M t = true) :
    (FrA M (ovS n M t) t ∧ Rel n k (twN K F t) (twK K F t) (twL K L t) (ovS n M t) ∧ Inv n k w 0 0 (ovS n M t) ∧ lsL (twK K F t) 13 = lsL K 13 ∧ nN (ovS n M t) 8 t = 0) ∨
    (∃ r M', RsM n F M M' t r ∧ twK K F t = resK K t F r ∧ twN K F t = resF F r ∧ twL K L t = L ∧ ovS n M t = folM n M' t) := by
  obtain ⟨h9, ho, h19, h23⟩ := (ovr_iff hI.nt).mp hov
  have bd := hI.bd (by decide) (by decide)
  have a1 := hI.a.1
  have hF0 := hR.f.1
  have hw := hR.w t h1t ht h9
  have hd := ((hI.d t h1t ht).2.2.2.2 h9).2 ho
  have m8 : M 8 (iN M t 0) = 0 ↔ nN M 8 (iN M t 0) = 0 := hI.nt.z rfl
  have k28 : K 28 t = 0 ↔ ¬ nN M 24 t = 1 := by
    rw [hR.nt.z rfl]
    have := ((hw.2.2.1 ho).2.1 h19).2
    constructor
    · intro z y; exact (this.mpr y) z
    · intro z; exact Classical.byContradiction (fun y => z (this.mp y))
  have m24 : M 24 t = nI 1 ↔ nN M 24 t = 1 := hI.nt.eq rfl (by decide)
  by_cases c : nN M 24 t = 1
  · have h11 := hd.2.2.2.2.1 h19 c
    have h4 : nN M 4 t = 1 := (hI.s.2 t h1t ht).1.2.2.2.1 (Or.inr (Or.inr (Or.inl h11)))
    unfold twK twN twL ovS
    rw [if_pos (m24.mpr c), if_neg (fun z => (k28.mp z) c), if_neg (fun z => (k28.mp z) c), if_neg (fun z => (k28.mp z) c)]
    unfold hlfM
    by_cases c0 : nN M 8 (iN M t 0) = 0
    · rw [if_pos (m8.mpr c0)]
      obtain ⟨e1, e2, e3⟩ := mt_0 (L := L) hR hI h1t ht (by omega) c0
      rw [e1, e2, e3]
      obtain ⟨E, I2⟩ := wt_E hI h1t ht ho h9 h19 c
      obtain ⟨R2, l2⟩ := hR.wait hI h1t ht ho h9 h19
      exact Or.inl ⟨E.fr, R2, I2, l2, by rw [nN_e (E.2.2.2 8 rfl)]; exact ho⟩
    · rw [if_neg (fun z => c0 (m8.mp z))]
      unfold gonM
      rcases mt_cases hR hI (by decide) h1t ht ho (show 1 ≤ nN M 4 t by omega) c0 with ⟨c1, e1, e2, e3⟩ | ⟨c1, r, r1, e1, e2, e3⟩
      · rw [if_pos ((hI.nt.eq rfl (by decide)).mpr c1), e1, e2, e3]
        obtain ⟨E, I2⟩ := se_E (y' := 0) hI h1t ht ho h11 (Or.inl h19) (by rw [h19, c]; decide)
        obtain ⟨R2, l2, -⟩ := hR.sec hI h1t ht ho h11 (Or.inl h19) E
        exact Or.inl ⟨E.fr, R2, I2, l2, by rw [nN_e (E.2.2.2.2 8 rfl)]; exact ho⟩
      · rw [if_neg (fun z => c1 ((hI.nt.eq rfl (by decide)).mp z))]
        exact Or.inr ⟨r, _, r1, e1, e2, e3, rfl⟩
  · unfold twK twN twL ovS
    rw [if_neg (fun z => c (m24.mp z)), if_pos (k28.mpr c), if_pos (k28.mpr c), if_pos (k28.mpr c)]
    unfold wrkM fnK fnF fnL
    rcases kd_sim hR hI h1t ht h9 with ⟨c1, c2, c3⟩ | ⟨c1, c2, c3⟩
    · rw [if_pos c2, if_pos c2, if_pos c2, if_neg (by rw [c1]; decide)]
      exact Or.inr ⟨rsV (resV K t), _, Or.inr (Or.inl ⟨_, rfl, by rw [res_wrk hR hI h1t ht h9 c3]⟩), rfl, rfl, rfl, rfl⟩
    · have cn : ¬ fwKd K t = -1 := by rw [c2]; exact nI_ne_m1 (by omega)
      rw [if_neg cn, if_neg cn, if_neg cn, if_pos c1]
      have hd2 := hd.1 (Or.inl h19)
      have s29 := (hI.s.2 t h1t ht).2.2.2.2.2.2
      have rs := (hR.s t h1t ht).2.2.2.2.2.2 h9
      have hB : fnB K t = psB M t (wrkK M t) := by
        unfold fnB psB mpB
        rw [c2, nI_clamp (by omega), hw.1.2.2.2.2, rs.2.2.1, rs.2.2.2]
        by_cases h10 : nN M 2 t = 10
        · have e1 : decide (M 2 t = nI 10) = true := decide_eq_true ((hI.nt.eq rfl (by decide)).mpr h10)
          have e2 : decide (M 21 t ≤ M 29 t) = decide (nN M 27 t < nN M 29 t ∧ nN M 27 t < nN M 29 t) := by
            rw [decide_eq_decide, hI.nt.l2 rfl rfl]; omega
          rw [e1, e2, Bool.true_and]
        · have e1 : decide (M 2 t = nI 10) = false := decide_eq_false (fun z => h10 ((hI.nt.eq rfl (by decide)).mp z))
          have e2 : decide (nN M 27 t < nN M 29 t ∧ nN M 27 t < nN M 29 t) = false := decide_eq_false (fun z => by have := s29.2.1 h10; omega)
          rw [e1, e2, Bool.false_and, Bool.and_false]
      unfold flsM
      rw [hB]
      by_cases cp : psB M t (wrkK M t) = true
      · rw [if_pos cp, if_pos cp, if_pos cp]
        have cp' := cp
        unfold psB at cp'
        rw [Bool.and_eq_true, Bool.and_eq_true] at cp'
        have h10 := (hI.nt.eq rfl (by decide)).mp (of_decide_eq_true cp'.1)
        have hm := (hI.nt.l2 rfl rfl).mp (of_decide_eq_true cp'.2.2)
        obtain ⟨E, I2⟩ := pz_E hI h1t ht ho h10 h19 c3 hm
        obtain ⟨R2, l2, -⟩ := hR.pause hI hN h1t ht ho h10 h19 c3 c2 hm E
        exact Or.inl ⟨E.fr, R2, I2, l2, by rw [nN_e (E.2.2.2.2.2 8 rfl)]; exact ho⟩
      · rw [if_neg cp, if_neg cp, if_neg cp]
        have NF := (flsE_R hI (by decide) h1t ht ho c3).1
        have k10 : K 10 t = nI t := by rw [hR.nt 10 t rfl, (hR.s t h1t ht).1]
        have hll : ((List.range (nN M 27 t)).map (fun i => nN M 31 (6 * t + i))).length = nN M 27 t := by rw [List.length_map, List.length_range]
        have d27 := (hI.d t h1t ht).2.1
        have esup : erlA K t (nN K 32 t) = supL ((List.range (nN M 27 t)).map (fun i => nN M 31 (6 * t + i))) := by
          funext j
          unfold erlA supL
          rw [hw.1.2.2.2.2, hll]
          by_cases hj : j < nN M 27 t
          · rw [if_pos hj, if_pos hj, hR.nt (3000 + t) j (by unfold exK; exact decide_eq_false (by omega)), (hw.2.2.2 j hj).2]
            have : ((List.range (nN M 27 t)).map (fun i => nN M 31 (6 * t + i)))[j]? = some (nN M 31 (6 * t + j)) := by
              rw [List.getElem?_map, List.getElem?_range hj]; rfl
            rw [this]; rfl
          · rw [if_neg hj, if_neg hj]
        refine Or.inr ⟨rsF (nI (wrkK M t)) (-1 + nI 1) (nN M 27 t) (supL ((List.range (nN M 27 t)).map (fun i => nN M 31 (6 * t + i)))), _, Or.inr (Or.inr (Or.inr ⟨_, wrkK M t, -1, _, NF, ?_, ?_, c3, by rw [hll]; omega, Or.inl rfl, fun o q => ?_⟩)), ?_, rfl, rfl, rfl⟩
        · unfold flsE; rw [hF0]
        · rw [hll]
        · obtain ⟨i, h1, rfl⟩ := List.mem_map.mp q
          have := hI.f.2.2.2 t h1t ht i (List.mem_range.mp h1)
          omega
        · show fnE K F t = failK (newFK K (F + 1) (nI (wrkK M t)) (K 10 t) (-1 + nI 1) (nN M 27 t) (supL _)) t (nI (F + 1))
          unfold fnE
          rw [esup, c2, hw.1.2.2.2.2, show (-1 + nI 1 : Int32) = 0 by decide +kernel]
end RNDS
