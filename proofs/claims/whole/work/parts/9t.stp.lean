/-! one stage asked behind an end, on both sides -/
section STPS
variable {n k F w x y : Nat} {K K1 K' : MS} {L L' : KL} {M M1 M' : MS} {t h : Nat}
theorem LA.m13 (h : LA K n) : ∀ u ∈ lsL K 13, 1 ≤ u ∧ u ≤ n := (h 13 (by decide)).1.2.2.2.2.1
theorem LA.l13 (h : LA K n) : (lsL K 13).length ≤ n := nd_len (h 13 (by decide)).2.1 h.m13
/-- free to be made ready -/
theorem fr_iff (hR : Rel n k F K L M) (hI : Inv n k w x y M) (h1t : 1 ≤ t) (ht : t ≤ n) : frB K t = true ↔ nN M 2 t = 12 ∧ nN M 8 t = 0 ∧ nN M 19 t = 0 ∧ someB M t = true := by
  have hs := hI.s.2 t h1t ht
  have rs := hR.s t h1t ht
  have d := hI.d t h1t ht
  have e11 : K 11 t = nI 4 ↔ nN M 2 t = 12 := by
    rw [hR.nt.eq rfl (by decide), rs.2.1]
    unfold fm
    have := hs.1.1
    split
    · omega
    · split <;> omega
  have k16 := hR.k16 hI h1t ht
  have e16 : nN M 2 t = 12 → (K 16 t = 0 ↔ nN M 8 t = 0 ∧ nN M 19 t = 0) := fun q => by
    rw [hR.nt.z rfl, (hR.d t h1t ht).1]
    unfold stt
    split
    · rw [if_neg (by omega)]; omega
    · omega
  unfold frB
  rw [decide_eq_true_iff, e11]
  constructor
  · rintro ⟨q1, q2, q3⟩
    have h4 : nN M 4 t = 1 := hs.1.2.2.2.1 (Or.inr (Or.inr (Or.inr q1)))
    have z := (e16 q1).mp q2
    refine ⟨q1, z.1, z.2, ?_⟩
    have ei : finK K t = iN M t 0 := by unfold finK; rw [rs.2.2.1, h4, if_neg (by decide)]; exact iK_iN hR h1t ht (by omega)
    have hm : iN M t 0 ∈ inL M t := inL_mem.mpr ⟨0, by omega, rfl⟩
    have b := inL_b hI.s h1t ht hm
    rw [ei] at q3
    exact (some_iff hI.nt).mpr ⟨_, hm, (hR.k16 hI b.1 (by omega)).1.mp q3⟩
  · rintro ⟨q1, q2, q3, q4⟩
    have h4 : nN M 4 t = 1 := hs.1.2.2.2.1 (Or.inr (Or.inr (Or.inr q1)))
    have ei : finK K t = iN M t 0 := by unfold finK; rw [rs.2.2.1, h4, if_neg (by decide)]; exact iK_iN hR h1t ht (by omega)
    refine ⟨q1, (e16 q1).mpr ⟨q2, q3⟩, ?_⟩
    obtain ⟨s, s1, s2⟩ := (some_iff hI.nt).mp q4
    obtain ⟨j, j1, j2⟩ := inL_mem.mp s1
    have hj : j = 0 := by omega
    subst hj
    have b := inL_b hI.s h1t ht s1
    have e0 : iN M t 0 = s := j2
    rw [ei, e0]
    exact (hR.k16 hI b.1 (by omega)).1.mpr s2
/-- the reference's step -/
def stM (M : MS) (t : Nat) : MS := if someB M t = true ∧ M 8 t = 0 then askedM M t else M
/-- open ones are not due -/
def Nd (n : Nat) (M : MS) : Prop := ∀ t, 1 ≤ t → t ≤ n → nN M 8 t = 0 → nN M 13 t = 0 ∧ nN M 26 t = 0
/-- the dues: the due ones of the places behind d -/
def DR (d : Nat) (K M : MS) : Prop := lsL K 13 = (enR M (d + 1) (nN M 16 0 - d)).filter (dueB M)
theorem due_iff (hN : NT exM M) {s : Nat} : dueB M s = true ↔ nN M 8 s = 3 ∨ nN M 13 s ≠ 0 := by
  unfold dueB
  rw [decide_eq_true_iff, hN.eq rfl (by decide), hN.z rfl]
theorem EndR.e10 (h : EndR M M' t) : nN M' 15 = va_up (nN M 15) (nN M 16 0 + 1) t ∧ (∃ v, nN M' 8 = va_up (nN M 8) t v) ∧ M' 13 = M 13 ∧ NT exM M' := by
  rcases h with ⟨h, hh, E, hf⟩ | ⟨M1, kd, ca, l, E, hk, hl, hca, hm, E2, e12⟩
  · exact ⟨E.1.2.2.2.1, ⟨h, E.1.1⟩, E.2.2.2.2.2.2 13 rfl, E.2.2.2.2.2.1⟩
  · have ef := E.2.2.2.2.2.2.2.2.2.2
    exact ⟨by rw [E2.1.2.2.2.1, nN_e (ef 15 rfl), nN_e (ef 16 rfl)], ⟨2, by rw [E2.1.1, nN_e (ef 8 rfl)]⟩, (E2.2.2.2.2.2.2 13 rfl).trans (ef 13 rfl), E2.2.2.2.2.2.1⟩
/-- the dues behind an end -/
theorem DR.end {d : Nat} (hD : DR d K M) (hI : Inv n k w x y M) (hd : d ≤ nN M 16 0) (hE : EndR M M' t) (ho : nN M 8 t = 0) (l13 : lsL K' 13 = lsL K 13 ++ (if dueB M' t = true then [t] else [])) : DR d K' M' := by
  unfold DR at hD ⊢
  obtain ⟨e15, ⟨v, e8⟩, e13, hN'⟩ := hE.e10
  rw [l13, hD, hE.e16, show nN M 16 0 + 1 - d = (nN M 16 0 - d) + 1 by omega]
  have er : enR M' (d + 1) (nN M 16 0 - d + 1) = enR M (d + 1) (nN M 16 0 - d) ++ [t] := by
    unfold enR
    rw [List.range'_concat, List.map_append, List.map_cons, List.map_nil, e15, show d + 1 + 1 * (nN M 16 0 - d) = nN M 16 0 + 1 by omega, vu_s]
    congr 1
    refine List.map_congr_left (fun p hp => ?_)
    rw [List.mem_range'_1] at hp
    rw [vu_n (by omega)]
  rw [er, List.filter_append]
  have ef : (enR M (d + 1) (nN M 16 0 - d)).filter (dueB M') = (enR M (d + 1) (nN M 16 0 - d)).filter (dueB M) := by
    refine List.filter_congr (fun s hs => ?_)
    have q := (enR_mem hI.e (by omega) (by omega)).mp hs
    have hne : s ≠ t := fun z => by subst z; exact q.1.2.2 ho
    have a := due_iff (s := s) hI.nt
    have b := due_iff (s := s) hN'
    rw [e8, nN_e e13, vu_n hne] at b
    exact Bool.eq_iff_iff.mpr (b.trans a.symm)
  rw [ef]
  congr 1
  rw [List.filter_cons, List.filter_nil]
theorem EndE.e26 (h : EndE M M' t x) {u : Nat} (hu : u ≠ t) : nN M' 26 u = nN M 26 u := by
  rw [h.2.2.1]
  split
  · rw [vu_n hu]
  · rfl
theorem EndR.e26 (h : EndR M M' t) {u : Nat} (hu : u ≠ t) : nN M' 26 u = nN M 26 u := by
  rcases h with ⟨h, hh, E, hf⟩ | ⟨M1, kd, ca, l, E, hk, hl, hca, hm, E2, e12⟩
  · exact E.e26 hu
  · rw [E2.e26 hu, nN_e (E.2.2.2.2.2.2.2.2.2.2 26 rfl)]
theorem Nd.end (hD : Nd n M) (hE : EndR M M' t) : Nd n M' := by
  obtain ⟨-, ⟨v, e8⟩, e13, -⟩ := hE.e10
  intro u h1 h2 h3
  rw [nN_e e13]
  by_cases hu : u = t
  · subst hu; exact absurd h3 hE.e8
  · rw [hE.e26 hu]; rw [e8, vu_n hu] at h3; exact hD u h1 h2 h3
theorem stp_sim {d : Nat} (hR : Rel n k F K L M) (hI : Inv n k w 0 0 M) (hN : Nd n M) (hD : DR d K M) (hd : d ≤ nN M 16 0) (h13 : ∀ u ∈ lsL K 13, nN M 8 u ≠ 0) (h1t : 1 ≤ t) (ht : t ≤ n) :
    Rel n k (stpS (K, F) t).2 (stpS (K, F) t).1 L (stM M t) ∧ Inv n k w 0 0 (stM M t) ∧ Nd n (stM M t) ∧ DR d (stpS (K, F) t).1 (stM M t) ∧ (stM M t = M ∧ lsL (stpS (K, F) t).1 13 = lsL K 13 ∨ AskR M (stM M t) t) ∧ (∀ u ∈ lsL (stpS (K, F) t).1 13, nN (stM M t) 8 u ≠ 0) ∧ nN M 16 0 ≤ nN (stM M t) 16 0 := by
  have hw := isW_iff hR hI h1t ht
  unfold stpS stM
  by_cases h9 : 9 ≤ nN M 2 t
  · rw [if_pos (hw.mpr h9)]
    by_cases hf : frB K t = true
    · obtain ⟨q1, q2, q3, q4⟩ := (fr_iff hR hI h1t ht).mp hf
      have ea : askedM M t = up2 (up2 M 19 t (nI 1)) 20 t (M 0 0) := by
        unfold askedM; rw [q1]
        show becM M t = _
        unfold becM; rw [if_pos ((hI.nt.z rfl).mpr q3)]
      rw [if_pos hf, if_pos (show someB M t = true ∧ M 8 t = 0 from ⟨q4, (hI.nt.z rfl).mpr q2⟩), ea]
      obtain ⟨R1, l13⟩ := hR.rdy hI h1t ht q2 h9 (Or.inl q3)
      have e8 : nN (up2 (up2 M 19 t (nI 1)) 20 t (M 0 0)) 8 = nN M 8 := by rw [nN_f (by decide), nN_f (by decide)]
      have e16 : nN (up2 (up2 M 19 t (nI 1)) 20 t (M 0 0)) 16 = nN M 16 := by rw [nN_f (by decide), nN_f (by decide)]
      refine ⟨R1, hI.rdy h1t ht q2 h9 (Or.inl q3), fun u a b c => ?_, ?_, Or.inr (Or.inr (Or.inl ⟨q1, q3, rfl⟩)), fun u hu => ?_, by rw [e16]; exact Nat.le_refl _⟩
      · rw [e8] at c; rw [nN_f (by decide), nN_f (by decide), nN_f (by decide), nN_f (by decide)]; exact hN u a b c
      · unfold DR at hD ⊢
        show lsL (rdyK K t) 13 = _
        rw [l13, hD, e16]
        unfold enR dueB
        rw [nN_f (by decide), nN_f (by decide), up2_f (show 8 ≠ 20 by decide), up2_f (show 8 ≠ 19 by decide), up2_f (show 13 ≠ 20 by decide), up2_f (show 13 ≠ 19 by decide)]
      · rw [e8]
        rw [show (rdyK K t, F).1 = rdyK K t from rfl, l13] at hu
        exact h13 u hu
    · rw [if_neg hf]
      have same : (if someB M t = true ∧ M 8 t = 0 then askedM M t else M) = M := by
        split
        · rename_i c
          have so := hI.s.2 t h1t ht
          have sp := some_pos hI c.1
          have h0 : nN M 2 t = 9 ∨ nN M 2 t = 10 ∨ nN M 2 t = 11 ∨ nN M 2 t = 12 := by have := so.1.1; omega
          rcases h0 with q | q | q | q
          · have := so.1.2.2.1 (Or.inr (Or.inl q)); omega
          · have := so.1.2.2.1 (Or.inr (Or.inr q)); omega
          · unfold askedM; rw [q]; rfl
          · unfold askedM; rw [q]
            show becM M t = M
            unfold becM
            split
            · rename_i c2
              exact absurd ((fr_iff hR hI h1t ht).mpr ⟨q, (hI.nt.z rfl).mp c.2, (hI.nt.z rfl).mp c2, c.1⟩) hf
            · rfl
        · rfl
      rw [same]
      exact ⟨hR, hI, hN, hD, Or.inl ⟨rfl, rfl⟩, h13, Nat.le_refl _⟩
  · rw [if_neg (fun q => h9 (hw.mp q))]
    have k16 := hR.k16 hI h1t ht
    by_cases ho : nN M 8 t = 0
    · rw [if_neg (show ¬ nI 5 ≤ (K, F).1 16 t from fun q => k16.1.mp q ho)]
      have h13t : t ∉ lsL K 13 := fun q => h13 t q ho
      rcases rul_all hR hI (by decide) h1t ht ho (by omega) with ⟨q1, q2⟩ | ⟨q1, q2, r', q3, q4, q5⟩
      · rw [if_pos (show (rulR (K, F).1 t).1 = 0 by rw [show (K, F).1 = K from rfl, q1]; rfl)]
        have same : (if someB M t = true ∧ M 8 t = 0 then askedM M t else M) = M := by
          split
          · rename_i c; exact q2 c.1
          · rfl
        rw [same]
        exact ⟨hR, hI, hN, hD, Or.inl ⟨rfl, rfl⟩, h13, Nat.le_refl _⟩
      · rw [if_neg (show ¬ (rulR (K, F).1 t).1 = 0 from q2), if_pos (show someB M t = true ∧ M 8 t = 0 from ⟨q1, (hI.nt.z rfl).mpr ho⟩)]
        have a1 := hI.a.1
        obtain ⟨z0, z1, z2, z3, z4, z5⟩ := res_sim hR hI (by decide) h1t ht ho q5 (Or.inl h13t) (by have := hR.la.l13; omega)
        show Rel n k (resF F (rulR K t)) (nteK (resK K t F (rulR K t)) t) L (askedM M t) ∧ _ ∧ _ ∧ DR d (nteK (resK K t F (rulR K t)) t) _ ∧ (_ ∧ lsL (nteK (resK K t F (rulR K t)) t) 13 = _ ∨ _) ∧ (∀ u ∈ lsL (nteK (resK K t F (rulR K t)) t) 13, _) ∧ _
        rw [q3, q4]
        have hnd : nN M 13 t = 0 := (hN t h1t ht ho).1
        have hdue : dueB (askedM M t) t = true ↔ nN (askedM M t) 8 t = 3 := by
          rw [due_iff z2.e10.2.2.2, nN_e z2.e10.2.2.1, hnd]
          exact ⟨fun z => z.elim id (fun z => absurd rfl z), Or.inl⟩
        refine ⟨z3, AskR.inv (Or.inr (Or.inr z2)) hI h1t ht ho, hN.end z2, hD.end hI hd z2 ho ?_, Or.inr (Or.inr (Or.inr z2)), fun u hu => ?_, by rw [z2.e16]; omega⟩
        · rw [z4]
          by_cases c : nN (askedM M t) 8 t = 3
          · rw [if_pos c, if_pos (hdue.mpr c)]
          · rw [if_neg c, if_neg (fun z => c (hdue.mp z))]
        · rw [z4, List.mem_append] at hu
          obtain ⟨-, ⟨v, e8⟩, -, -⟩ := z2.e10
          rcases hu with hu | hu
          · have hne : u ≠ t := fun z => h13t (z ▸ hu)
            rw [e8, vu_n hne]; exact h13 u hu
          · have : u = t := by
              split at hu
              · exact List.mem_singleton.mp hu
              · cases hu
            rw [this]; exact z2.e8
    · rw [if_pos (show nI 5 ≤ (K, F).1 16 t from k16.1.mpr ho), if_neg (show ¬ (someB M t = true ∧ M 8 t = 0) from fun q => ho ((hI.nt.z rfl).mp q.2))]
      exact ⟨hR, hI, hN, hD, Or.inl ⟨rfl, rfl⟩, h13, Nat.le_refl _⟩
end STPS
