/-! when a rule does nothing, and that nothing else changes that -/
section QUIS
variable {n k F w x y : Nat} {K K1 K' : MS} {L L' : KL} {M M1 M' : MS} {t h : Nat}
theorem rsN_1 : rsN.1 = 0 := rfl
theorem rsA_1 (u : Nat) : (rsA u).1 = 1 := rfl
theorem rsV_1 (v : Int32) : (rsV v).1 = 2 := rfl
theorem rsO_1 : rsO.1 = 3 := rfl
theorem rsF_1 (a b : Int32) (c : Nat) (d : Nat → Int32) : (rsF a b c d).1 = 4 := rfl
theorem erl_z {v : Int32} : ∀ (q j e : Nat), (∀ i, j ≤ i → i < j + q → 1 ≤ iK K t i) → (erlF K t v q j e = 0 ↔ e = 0 ∧ ∀ i, j ≤ i → i < j + q → ¬ v ≤ K 16 (iK K t i))
  | 0, j, e, _ => ⟨fun z => ⟨z, fun i h1 h2 => by omega⟩, fun z => z.1⟩
  | q + 1, j, e, hp => by
    rw [erlF]
    have hj := hp j (Nat.le_refl _) (by omega)
    rw [erl_z q (j + 1) _ (fun i h1 h2 => hp i (by omega) (by omega))]
    by_cases hc : v ≤ K 16 (iK K t j)
    · constructor
      · rintro ⟨z, _⟩
        by_cases he : e = 0
        · rw [if_pos ⟨hc, Or.inl he⟩] at z; omega
        · exfalso
          split at z
          · omega
          · exact he z
      · rintro ⟨_, z⟩; exact absurd hc (z j (Nat.le_refl _) (by omega))
    · rw [if_neg (fun z => hc z.1)]
      constructor
      · rintro ⟨z1, z2⟩
        refine ⟨z1, fun i h1 h2 => ?_⟩
        by_cases hij : i = j
        · subst hij; exact hc
        · exact z2 i (by omega) (by omega)
      · rintro ⟨z1, z2⟩; exact ⟨z1, fun i h1 h2 => z2 i (by omega) (by omega)⟩
theorem erl_cg {v : Int32} (h12 : nN K' 12 t = nN K 12 t) (hi : ∀ j, j < nN K 12 t → iK K' t j = iK K t j) (hin : ∀ j, j < nN K 12 t → 1 ≤ iK K t j ∧ (v ≤ K' 16 (iK K t j) ↔ v ≤ K 16 (iK K t j))) : erlK K' t v = 0 ↔ erlK K t v = 0 := by
  unfold erlK
  rw [erl_z _ _ _ (fun i _ h2 => (hin i (by omega)).1), erl_z _ _ _ (fun i _ h2 => by rw [hi i (by omega)]; exact (hin i (by omega)).1), h12]
  constructor
  · rintro ⟨_, z⟩; exact ⟨rfl, fun i h1 h2 q => z i h1 h2 (by rw [hi i (by omega), (hin i (by omega)).2]; exact q)⟩
  · rintro ⟨_, z⟩; exact ⟨rfl, fun i h1 h2 q => z i h1 h2 (by rw [hi i (by omega), (hin i (by omega)).2] at q; exact q)⟩
theorem cntF_cg {v : Int32} : ∀ (q j a : Nat), (∀ i, j ≤ i → i < j + q → iK K' t i = iK K t i ∧ (K' 16 (iK K t i) = v ↔ K 16 (iK K t i) = v)) → cntF K' t v q j a = cntF K t v q j a
  | 0, _, _, _ => rfl
  | q + 1, j, a, hq => by
    have := hq j (Nat.le_refl _) (by omega)
    rw [cntF, cntF, this.1, cntF_cg q (j + 1) _ (fun i h1 h2 => hq i (by omega) (by omega))]
    by_cases c : K 16 (iK K t j) = v
    · rw [if_pos c, if_pos (this.2.mpr c)]
    · rw [if_neg c, if_neg (fun z => c (this.2.mp z))]
theorem cnt_cg {v : Int32} (h12 : nN K' 12 t = nN K 12 t) (hi : ∀ j, j < nN K 12 t → iK K' t j = iK K t j) (hin : ∀ j, j < nN K 12 t → (K' 16 (iK K t j) = v ↔ K 16 (iK K t j) = v)) : cntK K' t v = cntK K t v := by
  unfold cntK
  rw [h12]; exact cntF_cg _ _ _ (fun i _ h2 => ⟨hi i (by omega), hin i (by omega)⟩)
/-- the same state, or not ended on both sides -/
def H16 (K K' : MS) (s : Nat) : Prop := K' 16 s = K 16 s ∨ (¬ nI 5 ≤ K' 16 s ∧ ¬ nI 5 ≤ K 16 s)
theorem H16.le {s c : Nat} (h : H16 K K' s) (h5 : 5 ≤ c) (h7 : c ≤ 7) : nI c ≤ K' 16 s ↔ nI c ≤ K 16 s := by
  rcases h with h | ⟨h1, h2⟩
  · rw [h]
  · have tr : ∀ z : Int32, nI c ≤ z → nI 5 ≤ z := fun z q => by
      rw [Int32.le_iff_toInt_le] at q ⊢
      rw [nI_toInt (by omega)] at q ⊢
      omega
    exact ⟨fun q => absurd (tr _ q) h1, fun q => absurd (tr _ q) h2⟩
theorem H16.eq {s c : Nat} (h : H16 K K' s) (h5 : 5 ≤ c) (h7 : c ≤ 7) : K' 16 s = nI c ↔ K 16 s = nI c := by
  rcases h with h | ⟨h1, h2⟩
  · rw [h]
  · exact ⟨fun q => absurd (by rw [q]; exact nI_le h5 (by omega)) h1, fun q => absurd (by rw [q]; exact nI_le h5 (by omega)) h2⟩
theorem thenR_z : (thenR K t).1 = 0 ↔ ¬ nI 5 ≤ K 16 (iK K t 0) := by
  unfold thenR
  by_cases h : nI 5 ≤ K 16 (iK K t 0)
  · rw [if_pos h]
    refine ⟨fun q => ?_, fun q => absurd h q⟩
    split at q
    · split at q
      · rw [rsF_1] at q; cases q
      · rw [rsV_1] at q; cases q
    · rw [rsA_1] at q; cases q
  · rw [if_neg h]; exact ⟨fun _ => h, fun _ => rfl⟩
theorem bthR_z : (bthR K t).1 = 0 ↔ erlK K t (nI 6) = 0 ∧ cntK K t (nI 5) ≠ nN K 12 t := by
  unfold bthR
  by_cases h : erlK K t (nI 6) = 0
  · rw [if_pos h]
    by_cases h2 : cntK K t (nI 5) = nN K 12 t
    · rw [if_pos h2]; exact ⟨fun q => (by rw [rsV_1] at q; cases q), fun q => absurd h2 q.2⟩
    · rw [if_neg h2]; exact ⟨fun _ => ⟨h, h2⟩, fun _ => rfl⟩
  · rw [if_neg h]; exact ⟨fun q => (by rw [rsA_1] at q; cases q), fun q => absurd q.1 h⟩
theorem allR_z : (allR K t).1 = 0 ↔ erlK K t (nI 6) = 0 ∧ cntK K t (nI 5) ≠ nN K 12 t := by
  unfold allR
  by_cases h : erlK K t (nI 6) = 0
  · rw [if_pos h]
    by_cases h2 : cntK K t (nI 5) = nN K 12 t
    · rw [if_pos h2]; exact ⟨fun q => (by rw [rsV_1] at q; cases q), fun q => absurd h2 q.2⟩
    · rw [if_neg h2]; exact ⟨fun _ => ⟨h, h2⟩, fun _ => rfl⟩
  · rw [if_neg h]; exact ⟨fun q => (by rw [rsA_1] at q; cases q), fun q => absurd q.1 h⟩
theorem frsR_z : (frsR K t).1 = 0 ↔ erlK K t (nI 5) = 0 := by
  unfold frsR
  by_cases h : erlK K t (nI 5) = 0
  · rw [if_pos h]; exact ⟨fun _ => h, fun _ => rfl⟩
  · rw [if_neg h]; exact ⟨fun q => (by rw [rsA_1] at q; cases q), fun q => absurd q h⟩
theorem anyQ_z : (anyQ K t).1 = 0 ↔ ¬ nN K 14 t ≤ cntK K t (nI 5) ∧ ¬ nN K 12 t - nN K 14 t < cntK K t (nI 6) + cntK K t (nI 7) := by
  unfold anyQ
  by_cases h : nN K 14 t ≤ cntK K t (nI 5)
  · rw [if_pos h]; exact ⟨fun q => (by rw [rsA_1] at q; cases q), fun q => absurd h q.1⟩
  · rw [if_neg h]
    by_cases h2 : nN K 12 t - nN K 14 t < cntK K t (nI 6) + cntK K t (nI 7)
    · rw [if_pos h2]
      refine ⟨fun q => ?_, fun q => absurd h2 q.2⟩
      split at q
      · rw [rsO_1] at q; cases q
      · rw [rsF_1] at q; cases q
    · rw [if_neg h2]; exact ⟨fun _ => ⟨h, h2⟩, fun _ => rfl⟩
theorem onfR_z : (onfR K t).1 = 0 ↔ ¬ nI 5 ≤ K 16 (iK K t 0) ∨ (¬ (K 18 (iK K t 0) = 0 ∨ und (nN K 50 (nN K 18 (iK K t 0))) (nN K 13 t) = false) ∧ ¬ nI 5 ≤ K 16 (iK K t (nN K 12 t - 1))) := by
  unfold onfR
  by_cases h : nI 5 ≤ K 16 (iK K t 0)
  · rw [if_pos h]
    by_cases h2 : K 18 (iK K t 0) = 0 ∨ und (nN K 50 (nN K 18 (iK K t 0))) (nN K 13 t) = false
    · rw [if_pos h2]; exact ⟨fun q => (by rw [rsA_1] at q; cases q), fun q => q.elim (fun z => absurd h z) (fun z => absurd h2 z.1)⟩
    · rw [if_neg h2]
      by_cases h3 : nI 5 ≤ K 16 (iK K t (nN K 12 t - 1))
      · rw [if_pos h3]; exact ⟨fun q => (by rw [rsA_1] at q; cases q), fun q => q.elim (fun z => absurd h z) (fun z => absurd h3 z.2)⟩
      · rw [if_neg h3]; exact ⟨fun _ => Or.inr ⟨h2, h3⟩, fun _ => rfl⟩
  · rw [if_neg h]; exact ⟨fun _ => Or.inl h, fun _ => rfl⟩
theorem alwR_z : (alwR K t).1 = 0 ↔ ¬ (nI 5 ≤ K 16 (iK K t 0) ∧ nI 5 ≤ K 16 (iK K t (nN K 12 t - 1))) := by
  unfold alwR
  by_cases h : nI 5 ≤ K 16 (iK K t 0) ∧ nI 5 ≤ K 16 (iK K t (nN K 12 t - 1))
  · rw [if_pos h]
    refine ⟨fun q => ?_, fun q => absurd h q⟩
    split at q
    · rw [rsA_1] at q; cases q
    · split at q
      · rw [rsA_1] at q; cases q
      · rw [rsF_1] at q; cases q
  · rw [if_neg h]; exact ⟨fun _ => h, fun _ => rfl⟩
theorem rz_cg (h11 : K' 11 t = K 11 t) (h12 : K' 12 t = K 12 t) (h13 : K' 13 t = K 13 t) (h14 : K' 14 t = K 14 t) (hi : ∀ j, j < nN K 12 t → iK K' t j = iK K t j) (hin : ∀ j, j < nN K 12 t → 1 ≤ iK K t j ∧ H16 K K' (iK K t j) ∧ K' 18 (iK K t j) = K 18 (iK K t j) ∧ (K 18 (iK K t j) = 0 ∨ K' 50 (nN K 18 (iK K t j)) = K 50 (nN K 18 (iK K t j)))) (hpos : 5 ≤ nN K 11 t → 1 ≤ nN K 12 t) : (rulR K' t).1 = 0 ↔ (rulR K t).1 = 0 := by
  have n11 : nN K' 11 t = nN K 11 t := by unfold nN; rw [h11]
  have n12 : nN K' 12 t = nN K 12 t := by unfold nN; rw [h12]
  have n13 : nN K' 13 t = nN K 13 t := by unfold nN; rw [h13]
  have n14 : nN K' 14 t = nN K 14 t := by unfold nN; rw [h14]
  have le : ∀ c, 5 ≤ c → c ≤ 7 → ∀ j, j < nN K 12 t → 1 ≤ iK K t j ∧ (nI c ≤ K' 16 (iK K t j) ↔ nI c ≤ K 16 (iK K t j)) := fun c h5 h7 j hj => ⟨(hin j hj).1, (hin j hj).2.1.le h5 h7⟩
  have eq : ∀ c, 5 ≤ c → c ≤ 7 → ∀ j, j < nN K 12 t → (K' 16 (iK K t j) = nI c ↔ K 16 (iK K t j) = nI c) := fun c h5 h7 j hj => (hin j hj).2.1.eq h5 h7
  have e5 := erl_cg n12 hi (le 5 (by decide) (by decide))
  have e6 := erl_cg n12 hi (le 6 (by decide) (by decide))
  have c5 := cnt_cg n12 hi (eq 5 (by decide) (by decide))
  have c6 := cnt_cg n12 hi (eq 6 (by decide) (by decide))
  have c7 := cnt_cg n12 hi (eq 7 (by decide) (by decide))
  unfold rulR
  rw [n11]
  generalize hf : nN K 11 t = f at hpos
  split
  · have p := hpos (by decide)
    rw [thenR_z, thenR_z, hi 0 (by omega), (le 5 (by decide) (by decide) 0 (by omega)).2]
  · rw [bthR_z, bthR_z, e6, c5, n12]
  · rw [frsR_z, frsR_z, e5]
  · rw [allR_z, allR_z, e6, c5, n12]
  · rw [anyQ_z, anyQ_z, c5, c6, c7, n12, n14]
  · have p := hpos (by decide)
    obtain ⟨_, _, b, c⟩ := hin 0 (by omega)
    have n18 : nN K' 18 (iK K t 0) = nN K 18 (iK K t 0) := by unfold nN; rw [b]
    rw [onfR_z, onfR_z, n12, hi 0 (by omega), hi (nN K 12 t - 1) (by omega), b, n18, n13, (le 5 (by decide) (by decide) 0 (by omega)).2, (le 5 (by decide) (by decide) (nN K 12 t - 1) (by omega)).2]
    rcases c with c | c
    · constructor
      · rintro (z | z)
        · exact Or.inl z
        · exact absurd (Or.inl c) z.1
      · rintro (z | z)
        · exact Or.inl z
        · exact absurd (Or.inl c) z.1
    · have n50 : nN K' 50 (nN K 18 (iK K t 0)) = nN K 50 (nN K 18 (iK K t 0)) := by show (K' 50 _).toNatClampNeg = (K 50 _).toNatClampNeg; rw [c]
      rw [n50]
  · have p := hpos (by decide)
    rw [alwR_z, alwR_z, n12, hi 0 (by omega), hi (nN K 12 t - 1) (by omega), (le 5 (by decide) (by decide) 0 (by omega)).2, (le 5 (by decide) (by decide) (nN K 12 t - 1) (by omega)).2]
  · rw [frsR_z, frsR_z, e5]
  · exact Iff.rfl
/-- quiet: asked again, it does nothing -/
def Qu (K : MS) (u : Nat) : Prop := (isWK K u = false → ¬ nI 5 ≤ K 16 u → (rulR K u).1 = 0) ∧ (isWK K u = true → frB K u = false)
theorem qu_st (hR : Rel n k F K L M) (hI : Inv n k w 0 0 M) (h1t : 1 ≤ t) (ht : t ≤ n) (hq : Qu K t) : stM M t = M ∧ stpS (K, F) t = (K, F) := by
  have hw := isW_iff hR hI h1t ht
  have k16 := hR.k16 hI h1t ht
  have so := hI.s.2 t h1t ht
  unfold stM stpS
  by_cases h9 : 9 ≤ nN M 2 t
  · have hf := hq.2 (hw.mpr h9)
    rw [if_pos (hw.mpr h9), if_neg (show ¬ frB (K, F).1 t = true from fun z => by rw [show (K, F).1 = K from rfl, hf] at z; cases z)]
    refine ⟨?_, rfl⟩
    split
    · rename_i c
      have sp := some_pos hI c.1
      have h0 : nN M 2 t = 9 ∨ nN M 2 t = 10 ∨ nN M 2 t = 11 ∨ nN M 2 t = 12 := by have := so.1.1; omega
      rcases h0 with q | q | q | q
      · have := so.1.2.2.1 (Or.inr (Or.inl q)); omega
      · have := so.1.2.2.1 (Or.inr (Or.inr q)); omega
      · unfold askedM; rw [q]; rfl
      · unfold askedM; rw [q]
        show becM M t = M
        unfold becM
        split
        · rename_i c2
          have := (fr_iff hR hI h1t ht).mpr ⟨q, (hI.nt.z rfl).mp c.2, (hI.nt.z rfl).mp c2, c.1⟩
          rw [hf] at this; cases this
        · rfl
    · rfl
  · have hwf : isWK K t = false := by cases hz : isWK K t; rfl; exact absurd (hw.mp hz) h9
    rw [if_neg (fun q => h9 (hw.mp q))]
    by_cases ho : nN M 8 t = 0
    · have ho' : ¬ nI 5 ≤ K 16 t := fun q => k16.1.mp q ho
      have hz := hq.1 hwf ho'
      rw [if_neg (show ¬ nI 5 ≤ (K, F).1 16 t from ho'), if_pos (show (rulR (K, F).1 t).1 = 0 from hz)]
      refine ⟨?_, rfl⟩
      rcases rul_all hR hI (by decide) h1t ht ho (by omega) with ⟨q1, q2⟩ | ⟨q1, q2, -⟩
      · split
        · rename_i c; exact q2 c.1
        · rfl
      · exact absurd hz q2
    · rw [if_pos (show nI 5 ≤ (K, F).1 16 t from k16.1.mpr ho), if_neg (fun q => ho ((hI.nt.z rfl).mp q.2))]
      exact ⟨rfl, rfl⟩
/-- behind it was asked, it is quiet -/
theorem st_qu (hR : Rel n k F K L M) (hI : Inv n k w 0 0 M) (h1t : 1 ≤ t) (ht : t ≤ n) (hR' : Rel n k (stpS (K, F) t).2 (stpS (K, F) t).1 L (stM M t)) (hI' : Inv n k w 0 0 (stM M t)) : Qu (stpS (K, F) t).1 t := by
  have hw := isW_iff hR hI h1t ht
  have hw' := isW_iff hR' hI' h1t ht
  have k16 := hR.k16 hI h1t ht
  by_cases h9 : 9 ≤ nN M 2 t
  · have e1 : stpS (K, F) t = if frB K t = true then (rdyK K t, F) else (K, F) := by unfold stpS; rw [if_pos (hw.mpr h9)]
    by_cases hf : frB K t = true
    · rw [if_pos hf] at e1
      rw [e1] at hR' ⊢
      show Qu (rdyK K t) t
      have e16 : rdyK K t 16 t = nI 1 := by
        unfold rdyK; rw [ls_fe (by decide) (by decide) (add_e 0 t)]; unfold rdyA; rw [up2_f (by decide), up2_s]
      have e11 : isWK (rdyK K t) t = isWK K t := wk_e (fun j => by rw [rdy_f (by decide) (by decide) (by decide)]) t
      refine ⟨fun q => (by rw [e11, hw.mpr h9] at q; cases q), fun _ => ?_⟩
      unfold frB
      rw [decide_eq_false]
      rintro ⟨_, z, _⟩
      rw [e16] at z
      exact absurd z (by decide +kernel)
    · rw [if_neg hf] at e1
      rw [e1]
      exact ⟨fun q => (by rw [hw.mpr h9] at q; cases q), fun _ => by cases hz : frB K t; rfl; exact absurd hz hf⟩
  · have hwf : isWK K t = false := by cases hz : isWK K t; rfl; exact absurd (hw.mp hz) h9
    have e1 : stpS (K, F) t = if nI 5 ≤ K 16 t then (K, F) else if (rulR K t).1 = 0 then (K, F) else (nteK (resK K t F (rulR K t)) t, resF F (rulR K t)) := by unfold stpS; rw [if_neg (fun q => h9 (hw.mp q))]
    by_cases ho : nI 5 ≤ K 16 t
    · rw [if_pos ho] at e1
      rw [e1]
      exact ⟨fun _ q => absurd ho q, fun q => by rw [hwf] at q; cases q⟩
    · rw [if_neg ho] at e1
      by_cases hz : (rulR K t).1 = 0
      · rw [if_pos hz] at e1
        rw [e1]
        exact ⟨fun _ _ => hz, fun q => by rw [hwf] at q; cases q⟩
      · rw [if_neg hz] at e1
        have ho' : nN M 8 t = 0 := by
          by_cases z : nN M 8 t = 0
          · exact z
          · exact absurd (k16.1.mpr z) ho
        have e8 : nN (stM M t) 8 t ≠ 0 := by
          rcases rul_all hR hI (by decide) h1t ht ho' (by omega) with ⟨q1, q2⟩ | ⟨q1, q2, r', q3, q4, q5⟩
          · rw [q1] at hz; exact absurd rfl hz
          · have : stM M t = askedM M t := by unfold stM; rw [if_pos ⟨q1, (hI.nt.z rfl).mpr ho'⟩]
            rw [this]
            rcases q5 with ⟨u, _, hu, h8, e⟩ | ⟨v, _, e⟩ | ⟨_, e⟩ | ⟨M1, kd, ca, l, E, e, _, hk, hl, hca, hm⟩
            · rw [e, (as_E (t := t) (s := u) hI (by decide) (by decide) h1t ht ho' ⟨by omega, (hI.d u hu.1 hu.2).1⟩).1.1.1, vu_s]; exact h8
            · rw [e, (wv_E (t := t) hI (by decide) (by decide) h1t ht ho' v).1.1.1, vu_s]; decide
            · rw [e, (mark_E (t := t) (h := 3) hI (by decide) (by decide) h1t ht ho' ⟨by decide, by decide⟩).1.1.1, vu_s]; decide
            · have hF0 := hR.f.1
              have I1 := E.inv hI hk hl (by rw [hF0]; exact hca) (by rw [hF0]; exact hm)
              have bd := hI.bd (by decide) (by decide)
              rw [e, (wf_E (t := t) (v := F) I1 (by decide) (by decide) h1t ht (by rw [nN_e (E.2.2.2.2.2.2.2.2.2.2 8 rfl)]; exact ho') (by omega)).1.1.1, vu_s]; decide
        rw [e1] at hR' ⊢
        have h9' : ¬ 9 ≤ nN (stM M t) 2 t := fun q => by
          have r2 := (hR'.s t h1t ht).2.1
          have z := (isW_iff hR' hI' h1t ht).mpr q
          have : isWK (nteK (resK K t F (rulR K t)) t) t = isWK K t := by
            unfold isWK
            have : nteK (resK K t F (rulR K t)) t 11 t = K 11 t := by
              rw [nteK_o (fun q => by
                have q2 : isWK (resK K t F (rulR K t)) t = isWK K t := wk_e (fun j => res_o (by decide) (by decide) (by decide) (by decide) (by decide)) t
                rw [q2, hwf] at q; cases q) (by decide) (by decide) (by decide) (fun q => by unfold isLs at q; omega), nteC_o (by decide) (by decide) (by decide) (by decide) (by decide) (by decide) (by decide), res_o (by decide) (by decide) (by decide) (by decide) (by decide)]
            rw [this]
          rw [this, hwf] at z; cases z
        refine ⟨fun _ q => absurd ((hR'.k16 hI' h1t ht).1.mpr e8) q, fun q => absurd ((isW_iff hR' hI' h1t ht).mp q) h9'⟩
theorem Qu.ended (hR : Rel n k F K L M) (hI : Inv n k w 0 0 M) (h1t : 1 ≤ t) (ht : t ≤ n) (h8 : nN M 8 t ≠ 0) : Qu K t := by
  refine ⟨fun _ q => absurd ((hR.k16 hI h1t ht).1.mpr h8) q, fun _ => ?_⟩
  cases hz : frB K t
  · rfl
  · exact absurd ((fr_iff hR hI h1t ht).mp hz).2.1 h8
/-- what does not touch a stage's inputs leaves it quiet -/
theorem Qu.keep {F' w' : Nat} {u : Nat} (hR : Rel n k F K L M) (hI : Inv n k w 0 0 M) (hR' : Rel n k F' K' L' M') (hI' : Inv n k w' 0 0 M') (h1 : 1 ≤ u) (h2 : u ≤ n) (hq : Qu K u) (es : ∀ f, mS f = true → M' f = M f) (e8u : nN M' 8 u = 0 → nN M 8 u = 0) (e19 : nN M' 8 u = 0 → nN M' 19 u = 0 → nN M 19 u = 0) (e8 : ∀ s ∈ inL M u, nN M' 8 s = nN M 8 s) (e12 : ∀ s ∈ inL M u, nN M 8 s = 2 → nN M' 12 s = nN M 12 s) (e33 : ∀ g, g < nN M 38 0 → nN M' 33 g = nN M 33 g) (eF : nN M 38 0 ≤ nN M' 38 0) : Qu K' u := by
  have s := hR.s u h1 h2
  have s' := hR'.s u h1 h2
  have is := hI.s.2 u h1 h2
  have einL : inL M' u = inL M u := inL_e (es 3 rfl) (es 4 rfl)
  have k11 : K' 11 u = K 11 u := by rw [hR'.nt 11 u rfl, hR.nt 11 u rfl, s.2.1, s'.2.1, nN_e (es 2 rfl)]
  have k12 : K' 12 u = K 12 u := by rw [hR'.nt 12 u rfl, hR.nt 12 u rfl, s.2.2.1, s'.2.2.1, nN_e (es 4 rfl)]
  have k13 : K' 13 u = K 13 u := by rw [hR'.nt 13 u rfl, hR.nt 13 u rfl, s.2.2.2.2.1, s'.2.2.2.2.1, nN_e (es 5 rfl)]
  have k14 : K' 14 u = K 14 u := by rw [s.2.2.2.2.2.1, s'.2.2.2.2.2.1, nN_e (es 2 rfl), es 6 rfl, es 7 rfl, es 32 rfl]
  have eW : isWK K' u = isWK K u := by unfold isWK; rw [k11]
  refine ⟨fun q1 q2 => ?_, fun q1 => ?_⟩
  · rw [eW] at q1
    have ho' : nN M' 8 u = 0 := by
      by_cases z : nN M' 8 u = 0
      · exact z
      · exact absurd ((hR'.k16 hI' h1 h2).1.mpr z) q2
    have hz := hq.1 q1 (fun z => (hR.k16 hI h1 h2).1.mp z (e8u ho'))
    refine (rz_cg k11 k12 k13 k14 (fun j hj => ?_) (fun j hj => ?_) (fun z => ?_)).mpr hz
    · rw [s.2.2.1] at hj
      rw [iK_iN hR' h1 h2 (by rw [nN_e (es 4 rfl)]; exact hj), iK_iN hR h1 h2 hj]
      unfold iN; rw [nN_e (es 3 rfl)]
    · rw [s.2.2.1] at hj
      rw [iK_iN hR h1 h2 hj]
      have hm : iN M u j ∈ inL M u := inL_mem.mpr ⟨j, hj, rfl⟩
      have b := inL_b hI.s h1 h2 hm
      generalize iN M u j = v at hm b
      have kk := hR.k16 hI b.1 (show v ≤ n by omega)
      have kk' := hR'.k16 hI' b.1 (show v ≤ n by omega)
      have ev := e8 v hm
      refine ⟨b.1, ?_, ?_, ?_⟩
      · by_cases z : nN M 8 v = 0
        · exact Or.inr ⟨fun c => kk'.1.mp c (by rw [ev]; exact z), fun c => kk.1.mp c z⟩
        · refine Or.inl ?_
          rw [hR'.nt 16 v rfl, hR.nt 16 v rfl, kk.2.1 z, kk'.2.1 (by rw [ev]; exact z), ev]
      · rw [hR'.nt 18 v rfl, hR.nt 18 v rfl, (hR.d v b.1 (by omega)).2.2.1, (hR'.d v b.1 (by omega)).2.2.1, ev]
        by_cases z : nN M 8 v = 2
        · rw [if_pos z, if_pos z, e12 v hm z]
        · rw [if_neg z, if_neg z]
      · by_cases z : nN M 8 v = 2
        · refine Or.inr ?_
          have f0 := hI.f12 b.1 (show v ≤ n by omega) z
          have hF0 := hR.f.1
          have hF0' := hR'.f.1
          rw [(hR.k18z b.1 (by omega)).2 z, hR'.nt 50 _ rfl, hR.nt 50 _ rfl, (hR.f.2 _ (by rw [← hF0]; exact f0.1)).1, (hR'.f.2 _ (by rw [← hF0']; omega)).1, e33 _ f0.1]
        · exact Or.inl ((hR.k18z b.1 (by omega)).1.mpr z)
    · rw [s.2.1] at z
      rw [s.2.2.1]
      have hw : ¬ 9 ≤ nN M 2 u := fun c => by rw [(isW_iff hR hI h1 h2).mpr c] at q1; cases q1
      unfold fm at z
      have : nN M 2 u ≠ 0 := fun c => by rw [if_pos c] at z; omega
      have h8 : nN M 2 u = 1 ∨ nN M 2 u = 2 ∨ nN M 2 u = 3 ∨ nN M 2 u = 4 ∨ nN M 2 u = 5 ∨ nN M 2 u = 6 ∨ nN M 2 u = 7 ∨ nN M 2 u = 8 := by omega
      have sh := is.1.2.2
      rcases h8 with c | c | c | c | c | c | c | c
      · have := sh.2.1 (Or.inl c); omega
      · have := sh.2.2.1 (Or.inl c); omega
      · have := sh.2.2.1 (Or.inr (Or.inl c)); omega
      · exact sh.2.2.2.2 (Or.inl c)
      · exact sh.2.2.2.2 (Or.inr c)
      · have := sh.2.2.1 (Or.inr (Or.inr c)); omega
      · have := sh.2.2.2.1 c; omega
      · have := sh.2.1 (Or.inr (Or.inl c)); omega
  · rw [eW] at q1
    have hf := hq.2 q1
    cases hz : frB K' u
    · rfl
    · exfalso
      obtain ⟨z1, z2, z3, z4⟩ := (fr_iff hR' hI' h1 h2).mp hz
      rw [nN_e (es 2 rfl)] at z1
      have : frB K u = true := (fr_iff hR hI h1 h2).mpr ⟨z1, e8u z2, e19 z2 z3, ?_⟩
      · rw [hf] at this; cases this
      · obtain ⟨v, v1, v2⟩ := (some_iff hI'.nt).mp z4
        rw [einL] at v1
        exact (some_iff hI.nt).mpr ⟨v, v1, by rw [← e8 v v1]; exact v2⟩
end QUIS
