/-! any(), on both sides -/
section RANS
variable {n k F w x y : Nat} {K K1 K' : MS} {L L' : KL} {M M1 M' : MS} {t h : Nat}
theorem updI (g : Nat → Int32) (i : Nat) (v : Int32) (j : Nat) : upd g i v j = if j = i then v else g j := rfl
theorem shF_rep (hp : ∀ s, 1 ≤ s → s ≤ n → nN K 20 s = nN M 10 s) (hN : NT exK K) (hn : n ≤ 200) {u : Nat} (hu : 1 ≤ u ∧ u ≤ n) : ∀ (a : Nat) (l1 l2 : List Nat) (g : Nat → Int32), l1.length = a → (∀ j, j < a → g j = nI (l1[j]?.getD 0)) → (∀ j, j < l2.length → g (a + 1 + j) = nI (l2[j]?.getD 0)) → (l1 ++ l2).Pairwise (fun p q => nN M 10 p < nN M 10 q) → (∀ z ∈ l1, (1 ≤ z ∧ z ≤ n) ∧ nN M 10 z ≠ nN M 10 u) → (∀ z ∈ l2, nN M 10 u < nN M 10 z) →
    ∃ l' : List Nat, l'.Pairwise (fun p q => nN M 10 p < nN M 10 q) ∧ (∀ s, s ∈ l' ↔ s = u ∨ s ∈ l1 ∨ s ∈ l2) ∧ l'.length = a + 1 + l2.length ∧ ∀ j, j < l'.length → shF K u a g j = nI (l'[j]?.getD 0)
  | 0, l1, l2, g, hl, h1, h2, hs, hb, hc => by
    have e : l1 = [] := List.length_eq_zero_iff.mp hl
    subst e
    refine ⟨u :: l2, ?_, fun s => by simp, by simp; omega, fun j hj => ?_⟩
    · rw [List.pairwise_cons]; exact ⟨hc, hs⟩
    · rw [shF, updI]
      cases j with
      | zero => simp
      | succ j =>
        rw [if_neg (by omega)]
        have := h2 j (by simpa using hj)
        rw [show 0 + 1 + j = j + 1 by omega] at this
        rw [this]; simp
  | a + 1, l1, l2, g, hl, h1, h2, hs, hb, hc => by
    obtain ⟨l0, z, rfl⟩ : ∃ l0 z, l1 = l0 ++ [z] := by
      have hne : l1 ≠ [] := fun q => by rw [q] at hl; cases hl
      exact ⟨l1.dropLast, l1.getLast hne, (List.dropLast_concat_getLast hne).symm⟩
    have hl0 : l0.length = a := by rw [List.length_append] at hl; simpa using hl
    have hz := hb z (by simp)
    have ega : g a = nI z := by rw [h1 a (by omega), List.getElem?_append_right (by omega), hl0, Nat.sub_self]; rfl
    rw [shF, ega, nI_clamp (by omega)]
    have hcond : K 20 z ≤ K 20 u ↔ nN M 10 z ≤ nN M 10 u := by rw [hN.l2 rfl rfl, hp z hz.1.1 hz.1.2, hp u hu.1 hu.2]
    by_cases hle : nN M 10 z ≤ nN M 10 u
    · rw [if_pos (hcond.mpr hle)]
      have hlt : ∀ p ∈ l0 ++ [z], nN M 10 p < nN M 10 u := by
        intro p hp2
        rw [List.pairwise_append] at hs
        have hs1 := hs.1
        rw [List.pairwise_append] at hs1
        rw [List.mem_append, List.mem_singleton] at hp2
        rcases hp2 with q | q
        · have := hs1.2.2 p q z (by simp); omega
        · subst q; have := hz.2; omega
      refine ⟨l0 ++ [z] ++ u :: l2, ?_, fun s => ?_, ?_, fun j hj => ?_⟩
      · rw [List.pairwise_append] at hs ⊢
        refine ⟨hs.1, List.pairwise_cons.mpr ⟨hc, hs.2.1⟩, fun p q r q2 => ?_⟩
        rw [List.mem_cons] at q2
        rcases q2 with q2 | q2
        · subst q2; exact hlt p q
        · have := hlt p q; have := hc r q2; omega
      · simp only [List.mem_append, List.mem_cons]
        constructor
        · rintro (q | q | q)
          · exact Or.inr (Or.inl q)
          · exact Or.inl q
          · exact Or.inr (Or.inr q)
        · rintro (q | q | q)
          · exact Or.inr (Or.inl q)
          · exact Or.inl q
          · exact Or.inr (Or.inr q)
      · rw [List.length_append, List.length_cons, hl]; omega
      · rw [updI]
        by_cases hj1 : j = a + 1
        · rw [if_pos hj1, List.getElem?_append_right (by omega), hl, hj1, Nat.sub_self]; rfl
        · rw [if_neg hj1]
          by_cases hj2 : j < a + 1
          · rw [List.getElem?_append_left (by omega)]; exact h1 j hj2
          · rw [List.length_append, List.length_cons, hl] at hj
            have q := h2 (j - (a + 2)) (by omega)
            rw [show a + 1 + 1 + (j - (a + 2)) = j by omega] at q
            rw [List.getElem?_append_right (by omega), hl, q, show j - (a + 1) = (j - (a + 2)) + 1 by omega, List.getElem?_cons_succ]
    · rw [if_neg (fun q => hle (hcond.mp q))]
      obtain ⟨l', r1, r2, r3, r4⟩ := shF_rep hp hN hn hu a l0 (z :: l2) (upd g (a + 1) (nI z)) hl0 (fun j hj => by
          rw [updI, if_neg (by omega), h1 j (by omega), List.getElem?_append_left (by omega)]) (fun j hj => by
          rw [updI]
          cases j with
          | zero => rw [if_pos (by omega)]; rfl
          | succ j =>
            rw [if_neg (by omega), List.getElem?_cons_succ]
            have := h2 j (by simpa using hj)
            rw [show a + 1 + (j + 1) = a + 1 + 1 + j by omega]; exact this) (by rw [List.append_assoc] at hs; exact hs) (fun p q => hb p (by simp [q])) (fun p q => by
          rw [List.mem_cons] at q
          rcases q with q | q
          · subst q; omega
          · exact hc p q)
      refine ⟨l', r1, fun s => ?_, by rw [r3, List.length_cons]; omega, r4⟩
      rw [r2]
      simp only [List.mem_append, List.mem_cons, List.not_mem_nil, or_false]
      constructor
      · rintro (q | q | q | q)
        · exact Or.inl q
        · exact Or.inr (Or.inl (Or.inl q))
        · exact Or.inr (Or.inl (Or.inr q))
        · exact Or.inr (Or.inr q)
      · rintro (q | (q | q) | q)
        · exact Or.inl q
        · exact Or.inr (Or.inl q)
        · exact Or.inr (Or.inr (Or.inl q))
        · exact Or.inr (Or.inr (Or.inr q))
theorem byp_rep (hR : Rel n k F K L M) (hI : Inv n k w x y M) (h1t : 1 ≤ t) (ht : t ≤ n) (hh : 1 ≤ h ∧ h ≤ 3) (ct : Nat) : ∀ (q j : Nat) (l : List Nat) (g : Nat → Int32), j + q = nN M 4 t → (∀ i, i < l.length → g i = nI (l[i]?.getD 0)) → l.Pairwise (fun p q => nN M 10 p < nN M 10 q) → (∀ s, s ∈ l ↔ nN M 8 s = h ∧ ∃ i, i < j ∧ iN M t i = s) → l.length + (((List.range' j q).map (iN M t)).filter (cB M h)).length = ct →
    ∃ l' : List Nat, l'.Pairwise (fun p q => nN M 10 p < nN M 10 q) ∧ (∀ s, s ∈ l' ↔ nN M 8 s = h ∧ s ∈ inL M t) ∧ l'.length = ct ∧ ∀ i, i < l'.length → (bypF K t (nI (h + 4)) ct q j l.length g).1 i = nI (l'[i]?.getD 0)
  | 0, j, l, g, hj, hg, hs, hm, hc => by
    refine ⟨l, hs, fun s => ?_, by simpa using hc, hg⟩
    rw [hm, inL_mem]
    have : nN M 4 t = j := by omega
    rw [this]; rfl
  | q + 1, j, l, g, hj, hg, hs, hm, hc => by
    have hi := iK_iN hR h1t ht (j := j) (by omega)
    have hmm : iN M t j ∈ inL M t := inL_mem.mpr ⟨j, by omega, rfl⟩
    have b := inL_b hI.s h1t ht hmm
    have c := (hR.k16 hI b.1 (show iN M t j ≤ n by omega)).2.2 h hh.1 hh.2
    rw [List.range'_succ, List.map_cons, List.filter_cons] at hc
    rw [bypF, hi]
    by_cases hq : nN M 8 (iN M t j) = h
    · rw [if_pos (show cB M h (iN M t j) = true from decide_eq_true hq), List.length_cons] at hc
      rw [if_pos (show K 16 (iN M t j) = nI (h + 4) ∧ l.length < ct from ⟨c.mpr hq, by omega⟩)]
      have hni : ∀ z ∈ l, (1 ≤ z ∧ z ≤ n) ∧ nN M 10 z ≠ nN M 10 (iN M t j) := by
        intro z hz
        obtain ⟨z8, i, i1, i2⟩ := (hm z).mp hz
        have hzm : z ∈ inL M t := inL_mem.mpr ⟨i, by omega, i2⟩
        have bz := inL_b hI.s h1t ht hzm
        refine ⟨⟨bz.1, by omega⟩, fun e => ?_⟩
        have p1 := (hI.e.2.1 z bz.1 (by omega) (by omega)).2.2
        have p2 := (hI.e.2.1 _ b.1 (show iN M t j ≤ n by omega) (by omega)).2.2
        rw [e, p2] at p1
        have p3 : iN M t j = iN M t i := by rw [i2]; exact p1
        exact (hI.s.2 t h1t ht).2.2.1 i j i1 (by omega) p3.symm
      obtain ⟨l2, r1, r2, r3, r4⟩ := shF_rep (u := iN M t j) (fun s s1 s2 => (hR.d s s1 s2).2.2.2.2.1) hR.nt hI.a.1 ⟨b.1, by omega⟩ l.length l [] g rfl hg (fun i hi => absurd hi (Nat.not_lt_zero i)) (by rw [List.append_nil]; exact hs) hni (fun z hz => by cases hz)
      rw [List.length_nil, Nat.add_zero] at r3
      have r := byp_rep hR hI h1t ht hh ct q (j + 1) l2 (shF K (iN M t j) l.length g) (by omega) r4 r1 (fun s => by
        rw [r2, hm]
        simp only [List.not_mem_nil, or_false]
        constructor
        · rintro (e | ⟨e1, i, i1, i2⟩)
          · subst e; exact ⟨hq, j, by omega, rfl⟩
          · exact ⟨e1, i, by omega, i2⟩
        · rintro ⟨e1, i, i1, i2⟩
          by_cases hij : i = j
          · subst hij; exact Or.inl i2.symm
          · exact Or.inr ⟨e1, i, by omega, i2⟩) (by rw [r3]; omega)
      rw [r3] at r
      exact r
    · rw [if_neg (show ¬ cB M h (iN M t j) = true from fun z => hq (of_decide_eq_true z))] at hc
      rw [if_neg (show ¬ (K 16 (iN M t j) = nI (h + 4) ∧ l.length < ct) from fun z => hq (c.mp z.1))]
      refine byp_rep hR hI h1t ht hh ct q (j + 1) l g (by omega) hg hs (fun s => ?_) hc
      rw [hm]
      constructor
      · rintro ⟨e1, i, i1, i2⟩; exact ⟨e1, i, by omega, i2⟩
      · rintro ⟨e1, i, i1, i2⟩
        refine ⟨e1, i, ?_, i2⟩
        by_cases hij : i = j
        · subst hij; rw [i2] at hq; exact absurd e1 hq
        · omega
/-- the ended inputs that ended so, by place -/
def evL (M : MS) (t h : Nat) : List Nat := (eiL M t 1 (nN M 16 0)).filter (cB M h)
theorem evL_mem (hI : Inv n k w x y M) (h1t : 1 ≤ t) (ht : t ≤ n) (hh : 1 ≤ h) {s : Nat} : s ∈ evL M t h ↔ nN M 8 s = h ∧ s ∈ inL M t := by
  rw [evL, List.mem_filter, eiL_sub hI (Nat.le_refl 1) (by omega)]
  constructor
  · rintro ⟨⟨a, b⟩, c⟩; exact ⟨of_decide_eq_true c, a⟩
  · rintro ⟨a, b⟩
    have bz := inL_b hI.s h1t ht b
    have p := hI.e.2.1 s bz.1 (by omega) (by omega)
    exact ⟨⟨b, ⟨bz.1, by omega, by omega⟩, p.1, by omega⟩, decide_eq_true a⟩
theorem evL_sorted (hI : Inv n k w x y M) : (evL M t h).Pairwise (fun p q => nN M 10 p < nN M 10 q) := (eiL_sorted (t := t) hI (Nat.le_refl 1) (by omega)).filter _
theorem len_eq {l l' : List Nat} (h1 : l.Nodup) (h2 : l'.Nodup) (h : ∀ s, s ∈ l ↔ s ∈ l') : l.length = l'.length :=
  Nat.le_antisymm (h1.length_le_of_subset (fun s q => (h s).mp q)) (h2.length_le_of_subset (fun s q => (h s).mpr q))
theorem cnt_ev (hR : Rel n k F K L M) (hI : Inv n k w x y M) (h1t : 1 ≤ t) (ht : t ≤ n) (hh : 1 ≤ h ∧ h ≤ 3) : cntK K t (nI (h + 4)) = (evL M t h).length := by
  rw [cnt_L hR hI h1t ht hh]
  refine len_eq ((inL_nd hI.s h1t ht).sublist List.filter_sublist) (lt_nd (evL_sorted hI)) (fun s => ?_)
  rw [evL_mem hI h1t ht hh.1, List.mem_filter]
  exact ⟨fun q => ⟨of_decide_eq_true q.2, q.1⟩, fun q => ⟨q.2, decide_eq_true q.1⟩⟩
theorem byp_ev (hR : Rel n k F K L M) (hI : Inv n k w x y M) (h1t : 1 ≤ t) (ht : t ≤ n) (hh : 1 ≤ h ∧ h ≤ 3) : ∀ i, i < (evL M t h).length → bypK K t (nI (h + 4)) (evL M t h).length i = nI ((evL M t h)[i]?.getD 0) := by
  obtain ⟨l', r1, r2, r3, r4⟩ := byp_rep hR hI h1t ht hh (evL M t h).length (nN M 4 t) 0 [] (fun _ => 0) (by omega) (fun i hi => absurd hi (Nat.not_lt_zero i)) List.Pairwise.nil (fun s => by simp) (by
    rw [← cnt_ev hR hI h1t ht hh, cnt_L hR hI h1t ht hh, inL, List.range_eq_range', List.length_nil, Nat.zero_add]; rfl)
  have e : l' = evL M t h := sorted_eq r1 (evL_sorted hI) (fun s => by rw [r2, evL_mem hI h1t ht hh.1])
  intro i hi
  unfold bypK
  rw [(hR.s t h1t ht).2.2.1]
  have := r4 i (by rw [e]; exact hi)
  rw [List.length_nil] at this
  rw [this, e]
theorem len3 (M : MS) : ∀ (l : List Nat), (∀ s ∈ l, 1 ≤ nN M 8 s ∧ nN M 8 s ≤ 3) → l.length = (l.filter (cB M 1)).length + (l.filter (cB M 2)).length + (l.filter (cB M 3)).length
  | [], _ => rfl
  | s :: l, hl => by
    have r := len3 M l (fun z hz => hl z (List.mem_cons_of_mem _ hz))
    have hs := hl s List.mem_cons_self
    have hc : ∀ h, cB M h s = decide (nN M 8 s = h) := fun h => rfl
    rw [List.filter_cons, List.filter_cons, List.filter_cons, hc, hc, hc, List.length_cons]
    have : nN M 8 s = 1 ∨ nN M 8 s = 2 ∨ nN M 8 s = 3 := by omega
    rcases this with q | q | q
    · rw [q]; simp only [decide_true, if_true, List.length_cons]; simp; omega
    · rw [q]; simp only [decide_true, if_true, List.length_cons]; simp; omega
    · rw [q]; simp only [decide_true, if_true, List.length_cons]; simp; omega
end RANS
