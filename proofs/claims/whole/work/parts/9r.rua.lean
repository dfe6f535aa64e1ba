/-! any(), and every rule -/
section RUAS
variable {n k F w x y : Nat} {K K1 K' : MS} {L L' : KL} {M M1 M' : MS} {t h : Nat}
theorem ev_some (hI : Inv n k w x y M) (h1t : 1 ≤ t) (ht : t ≤ n) (hh : 1 ≤ h) (hl : (evL M t h).length ≠ 0) : someB M t = true := by
  obtain ⟨s, hs⟩ : ∃ s, s ∈ evL M t h := by
    cases hq : evL M t h with
    | nil => rw [hq] at hl; exact absurd rfl hl
    | cons a l => exact ⟨a, List.mem_cons_self⟩
  have q := (evL_mem hI h1t ht hh).mp hs
  exact (some_iff hI.nt).mpr ⟨s, q.2, by omega⟩
theorem any_sim (hR : Rel n k F K L M) (hI : Inv n k w 0 y M) (hy : y ≤ 1) (h1t : 1 ≤ t) (ht : t ≤ n) (ho : nN M 8 t = 0) (h5 : nN M 2 t = 5) : (rulR K t = rsN ∧ (someB M t = true → askedM M t = M)) ∨ (someB M t = true ∧ (rulR K t).1 ≠ 0 ∧ ∃ r', resK K t F (rulR K t) = resK K t F r' ∧ resF F (rulR K t) = resF F r' ∧ RsM n F M (askedM M t) t r') := by
  have hs := hI.s.2 t h1t ht
  have rs := hR.s t h1t ht
  have bd := hI.bd (by decide) hy
  have hn := hI.a.1
  have hF0 := hR.f.1
  have e12 : nN K 12 t = nN M 4 t := rs.2.2.1
  have e14 : nN K 14 t = nN M 7 t := by
    have : K 14 t = M 7 t := by rw [rs.2.2.2.2.2.1, if_pos h5]
    unfold nN; rw [this]
  have h7 := hs.2.2.2.2.1.2.1 h5
  have h7b := hs.2.2.2.2.1.1
  have e11 : nN K 11 t = 9 := by rw [rs.2.1, h5]; rfl
  have c5 : cntK K t (nI 5) = (evL M t 1).length := cnt_ev hR hI h1t ht ⟨by decide, by decide⟩
  have c6 : cntK K t (nI 6) = (evL M t 2).length := cnt_ev hR hI h1t ht ⟨by decide, by decide⟩
  have c7 : cntK K t (nI 7) = (evL M t 3).length := cnt_ev hR hI h1t ht ⟨by decide, by decide⟩
  have by5 := byp_ev hR hI h1t ht (h := 1) ⟨by decide, by decide⟩
  have by6 := byp_ev hR hI h1t ht (h := 2) ⟨by decide, by decide⟩
  have eR : rulR K t = anyQ K t := by unfold rulR; rw [e11]; rfl
  have eM : askedM M t = anyM M t := by unfold askedM; rw [h5]; rfl
  have eL : anyR M t = anyL M t (eiL M t 1 (nN M 16 0)) 0 0 0 0 := anyF_L hI.nt _ _ _ _ _ _
  have hEl : (eiL M t 1 (nN M 16 0)).length = (evL M t 1).length + (evL M t 2).length + (evL M t 3).length := len3 M _ (fun s q => by
    have z := (eiL_sub hI (Nat.le_refl 1) (by omega)).mp q
    exact ⟨by omega, (hI.d s z.2.1.1 z.2.1.2.1).1⟩)
  have wo : (anyR M t).2.2.1 = (evL M t 2).length + (evL M t 3).length := by
    have := anyL_wo (t := t) hI.nt (eiL M t 1 (nN M 16 0)) 0 0 0 0
    rw [← eL] at this
    have z : ((eiL M t 1 (nN M 16 0)).filter (c1B M)).length = (evL M t 1).length := rfl
    omega
  have nt : (anyR M t).2.1 = if nN M 7 t ≤ (evL M t 1).length then (evL M t 1)[nN M 7 t - 1]?.getD 0 else 0 := by
    have hlen : (eiL M t 1 (nN M 16 0)).length ≤ 24 * 3 := by
      have q1 := eiL_len (t := t) hI (Nat.le_refl 1) (q := nN M 16 0) (by omega) (cB M 1)
      have q2 := eiL_len (t := t) hI (Nat.le_refl 1) (q := nN M 16 0) (by omega) (cB M 2)
      have q3 := eiL_len (t := t) hI (Nat.le_refl 1) (q := nN M 16 0) (by omega) (cB M 3)
      have q4 : (evL M t 1).length ≤ nN M 4 t := q1
      have q5 : (evL M t 2).length ≤ nN M 4 t := q2
      have q6 : (evL M t 3).length ≤ nN M 4 t := q3
      have := hs.1.2.1
      omega
    rw [eL, anyL_nt hI.nt h7b _ _ _ _ _ (by omega)]
    show (if 0 < nN M 7 t ∧ nN M 7 t ≤ 0 + (evL M t 1).length then _ else 0) = _
    by_cases z : nN M 7 t ≤ (evL M t 1).length
    · rw [if_pos ⟨by omega, by omega⟩, if_pos z]; rfl
    · rw [if_neg (by omega), if_neg z]
  have la : (anyR M t).2.2.2 = (evL M t 2).getLast?.getD 0 := by rw [eL, anyL_la hI.nt]; rfl
  rw [eR, eM]
  unfold anyQ anyM
  rw [c5, c6, c7, e14, e12, nt, wo, la]
  by_cases hv : nN M 7 t ≤ (evL M t 1).length
  · have hgm : (evL M t 1)[nN M 7 t - 1]? = some ((evL M t 1)[nN M 7 t - 1]'(by omega)) := List.getElem?_eq_getElem (by omega)
    generalize hsv : (evL M t 1)[nN M 7 t - 1]'(by omega) = s at hgm
    have hsm : s ∈ evL M t 1 := by rw [← hsv]; exact List.getElem_mem _
    have q := (evL_mem hI h1t ht (by decide)).mp hsm
    have b := inL_b hI.s h1t ht q.2
    have bp : bypK K t (nI 5) (evL M t 1).length (nN M 7 t - 1) = nI s := by
      have := by5 (nN M 7 t - 1) (by omega)
      rw [hgm, Option.getD_some] at this; exact this
    rw [if_pos hv, if_pos hv, hgm, Option.getD_some, bp, nI_clamp (by omega)]
    have hs0 : ¬ s = 0 := by omega
    rw [if_pos hs0]
    refine Or.inr ⟨ev_some hI h1t ht (h := 1) (by decide) (by omega), by show 1 ≠ 0; decide, rsV (M 11 s), ?_, rfl, Or.inr (Or.inl ⟨_, rfl, rfl⟩)⟩
    have k16 : K 16 s = nI 5 := ((hR.k16 hI b.1 (by omega)).2.2 1 (by decide) (by decide)).mpr q.1
    have k17 : K 17 s = M 11 s := (hR.d s b.1 (by omega)).2.1
    have k18 : K 18 s = K 18 t := by
      rw [(hR.k18z b.1 (by omega)).1.mpr (by omega)]
      exact ((hR.k18z h1t ht).1.mpr (by omega)).symm
    show up2 (up2 (up2 K 16 t (K 16 s)) 17 t (K 17 s)) 18 t (K 18 s) = up2 (up2 K 16 t (nI 5)) 17 t (M 11 s)
    rw [k16, k17, k18]
    have : K 18 t = up2 (up2 K 16 t (nI 5)) 17 t (M 11 s) 18 t := by rw [up2_f (by decide), up2_f (by decide)]
    rw [this, up2_id]
  · rw [if_neg hv, if_neg hv, if_neg (show ¬ ¬ (0 : Nat) = 0 from fun z => z rfl)]
    have ek : kI M t = nN M 4 t := rfl
    rw [ek]
    by_cases hw : nN M 4 t - nN M 7 t < (evL M t 2).length + (evL M t 3).length
    · rw [if_pos hw, if_pos hw]
      by_cases h6 : (evL M t 2).length = 0
      · have hnil : evL M t 2 = [] := List.length_eq_zero_iff.mp h6
        rw [if_pos h6, hnil]
        refine Or.inr ⟨ev_some hI h1t ht (h := 3) (by decide) (by omega), by show 3 ≠ 0; decide, rsO, rfl, rfl, Or.inr (Or.inr (Or.inl ⟨rfl, ?_⟩))⟩
        exact if_pos rfl
      · rw [if_neg h6]
        obtain ⟨l0, z, hl0⟩ : ∃ l0 z, evL M t 2 = l0 ++ [z] := by
          have hne : evL M t 2 ≠ [] := fun q => by rw [q] at h6; exact h6 rfl
          exact ⟨_, _, (List.dropLast_concat_getLast hne).symm⟩
        have hz := (evL_mem hI h1t ht (by decide)).mp (show z ∈ evL M t 2 by rw [hl0]; simp)
        have bz := inL_b hI.s h1t ht hz.2
        have hsort := evL_sorted (t := t) (h := 2) hI
        rw [hl0, List.pairwise_append] at hsort
        have pz := hI.e.2.1 z bz.1 (by omega) (by omega)
        have elast : (evL M t 2).getLast?.getD 0 = z := by rw [hl0, List.getLast?_concat]; rfl
        have elen : (evL M t 2).length = l0.length + 1 := by rw [hl0]; simp
        have fz := hI.f12 bz.1 (show z ≤ n by omega) hz.1
        have el0 : (eiL M t 1 (nN M 10 z - 1)).filter (c2B M) = l0 := by
          refine sorted_eq ((eiL_sorted (t := t) hI (Nat.le_refl 1) (by omega)).filter _) hsort.1 (fun s => ?_)
          rw [List.mem_filter, eiL_sub hI (Nat.le_refl 1) (by omega)]
          constructor
          · rintro ⟨⟨a, b⟩, c⟩
            have hm : s ∈ evL M t 2 := (evL_mem hI h1t ht (by decide)).mpr ⟨of_decide_eq_true c, a⟩
            rw [hl0, List.mem_append, List.mem_singleton] at hm
            rcases hm with q | q
            · exact q
            · subst q; omega
          · intro q
            have hm := (evL_mem hI h1t ht (h := 2) (by decide)).mp (show s ∈ evL M t 2 by rw [hl0]; simp [q])
            have bs := inL_b hI.s h1t ht hm.2
            have ps := hI.e.2.1 s bs.1 (by omega) (by omega)
            have lt := hsort.2.2 s q z (by simp)
            exact ⟨⟨hm.2, ⟨bs.1, by omega, by omega⟩, ps.1, by omega⟩, decide_eq_true hm.1⟩
        have bpz : bypK K t (nI 6) (evL M t 2).length ((evL M t 2).length - 1) = nI z := by
          have := by6 ((evL M t 2).length - 1) (by omega)
          rw [show (nI (2 + 4) : Int32) = nI 6 from rfl] at this
          rw [this, elen, Nat.add_sub_cancel, hl0, List.getElem?_append_right (Nat.le_refl _), Nat.sub_self]; rfl
        have k18 : ∀ s, nN M 8 s = 2 → s ∈ inL M t → K 18 s = nI (nN M 12 s + 1) := fun s q1 q2 => by
          have bs := inL_b hI.s h1t ht q2
          rw [hR.nt 18 s rfl, (hR.k18z bs.1 (show s ≤ n by omega)).2 q1]
        rw [bpz, nI_clamp (by omega), elast, k18 z hz.1 hz.2]
        have esup : supA K (bypK K t (nI 6) (evL M t 2).length) ((evL M t 2).length - 1) = supL (l0.map (nN M 12)) := by
          funext j
          unfold supA supL
          rw [elen, Nat.add_sub_cancel, List.length_map]
          by_cases hj : j < l0.length
          · rw [if_pos hj, if_pos hj]
            have q1 := by6 j (by omega)
            rw [show (nI (2 + 4) : Int32) = nI 6 from rfl, elen, hl0, List.getElem?_append_left hj, List.getElem?_eq_getElem hj, Option.getD_some] at q1
            have hm := (evL_mem hI h1t ht (h := 2) (by decide)).mp (show l0[j] ∈ evL M t 2 by rw [hl0]; simp)
            have bs := inL_b hI.s h1t ht hm.2
            rw [q1, nI_clamp (by omega), k18 _ hm.1 hm.2, List.getElem?_map, List.getElem?_eq_getElem hj]; rfl
          · rw [if_neg hj, if_neg hj]
        rw [esup, elen, Nat.add_sub_cancel]
        have hz0 : ¬ z = 0 := by omega
        have NF := nf_E (M := M) (kd := 2) (at' := t) (ca := nI (nN M 12 z)) hI.nt (by omega) (by omega) (by omega)
        have NF2 := nonF_E (t := t) hI.nt (nN_lt M 12) (nN M 10 z - 1) 1 [] _ NF (by rw [List.length_nil]; omega)
        rw [List.nil_append, el0] at NF2
        refine Or.inr ⟨ev_some hI h1t ht (h := 2) (by decide) h6, by show 4 ≠ 0; decide, _, rfl, rfl, Or.inr (Or.inr (Or.inr ⟨_, 2, nI (nN M 12 z), l0.map (nN M 12), NF2, ?_, ?_, by decide, ?_, Or.inr ⟨_, by rw [← hF0]; exact fz.1, rfl⟩, fun o q => ?_⟩))⟩
        · unfold nonM; rw [if_neg hz0, fz.2, ← hF0]
        · rw [nI_add, List.length_map]
        · rw [List.length_map]
          have := eiL_len (t := t) hI (Nat.le_refl 1) (q := nN M 10 z - 1) (by omega) (c2B M)
          rw [el0] at this
          have := hs.1.2.1
          omega
        · obtain ⟨s, s1, rfl⟩ := List.mem_map.mp q
          have hm := (evL_mem hI h1t ht (h := 2) (by decide)).mp (show s ∈ evL M t 2 by rw [hl0]; simp [s1])
          have bs := inL_b hI.s h1t ht hm.2
          rw [← hF0]; exact (hI.f12 bs.1 (by omega) hm.1).1
    · rw [if_neg hw, if_neg hw]
      exact Or.inl ⟨rfl, fun _ => rfl⟩
theorem rul_all (hR : Rel n k F K L M) (hI : Inv n k w 0 y M) (hy : y ≤ 1) (h1t : 1 ≤ t) (ht : t ≤ n) (ho : nN M 8 t = 0) (h9 : nN M 2 t < 9) : (rulR K t = rsN ∧ (someB M t = true → askedM M t = M)) ∨ (someB M t = true ∧ (rulR K t).1 ≠ 0 ∧ ∃ r', resK K t F (rulR K t) = resK K t F r' ∧ resF F (rulR K t) = resF F r' ∧ RsM n F M (askedM M t) t r') := by
  by_cases h5 : nN M 2 t = 5
  · exact any_sim hR hI hy h1t ht ho h5
  · rcases rul_sim hR hI hy h1t ht ho h9 h5 with q | ⟨q1, q2⟩
    · exact Or.inl q
    · refine Or.inr ⟨q1, ?_, _, rfl, rfl, q2⟩
      rcases q2 with ⟨u, e, _⟩ | ⟨v, e, _⟩ | ⟨e, _⟩ | ⟨_, _, _, _, _, _, e, _⟩ <;> (rw [e]; first | (show 1 ≠ 0; decide) | (show 2 ≠ 0; decide) | (show 3 ≠ 0; decide) | (show 4 ≠ 0; decide))
end RUAS
