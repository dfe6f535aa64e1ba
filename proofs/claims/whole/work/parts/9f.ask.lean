/-! asked: what may become of a stage that is asked, in the reference -/
section ASKS
variable {n k w x y : Nat} {M M1 M' : MS} {t : Nat}
def AskR (M M' : MS) (t : Nat) : Prop := M' = M ∨ (nN M 2 t = 12 ∧ nN M 19 t = 0 ∧ M' = up2 (up2 M 19 t (nI 1)) 20 t (M 0 0)) ∨ (∃ h, (1 ≤ h ∧ h ≤ 3) ∧ EndE M M' t h ∧ (h = 2 → nN M' 12 t < nN M 38 0)) ∨ ∃ M1 kd ca l, NFE M M1 kd t ca l ∧ kd ≤ 15 ∧ l.length ≤ 24 ∧ (ca = -1 ∨ ∃ h, h < nN M 38 0 ∧ ca = nI h) ∧ (∀ o ∈ l, o < nN M 38 0) ∧ EndE M1 M' t 2 ∧ nN M' 12 t = nN M 38 0
theorem fst_in {wh : Bool} : ∀ (q j fd : Nat), j + q ≤ nN M 4 t → fstF M t wh q j fd = fd ∨ (fstF M t wh q j fd ∈ inL M t ∧ fstB M wh (fstF M t wh q j fd) = true)
  | 0, j, fd, _ => Or.inl rfl
  | q + 1, j, fd, h => by
    rw [fstF]
    by_cases h1 : fstB M wh (iN M t j) = true ∧ (fd = 0 ∨ M 10 (iN M t j) < M 10 fd)
    · rw [if_pos h1]
      rcases fst_in q (j + 1) (iN M t j) (by omega) with h2 | h2
      · rw [h2]; exact Or.inr ⟨inL_mem.mpr ⟨j, by omega, rfl⟩, h1.1⟩
      · exact Or.inr h2
    · rw [if_neg h1]; exact fst_in q (j + 1) fd (by omega)
theorem fst_nz {wh : Bool} (hp : ∀ s ∈ inL M t, 1 ≤ s) : ∀ (q j fd : Nat), j + q ≤ nN M 4 t → (fd ≠ 0 ∨ ∃ i, j ≤ i ∧ i < j + q ∧ fstB M wh (iN M t i) = true) → fstF M t wh q j fd ≠ 0
  | 0, j, fd, _, h => by
    rw [fstF]
    rcases h with h | ⟨i, h1, h2, _⟩
    · exact h
    · omega
  | q + 1, j, fd, hb, h => by
    rw [fstF]
    have hj : 1 ≤ iN M t j := hp _ (inL_mem.mpr ⟨j, by omega, rfl⟩)
    by_cases h1 : fstB M wh (iN M t j) = true ∧ (fd = 0 ∨ M 10 (iN M t j) < M 10 fd)
    · rw [if_pos h1]; exact fst_nz hp q (j + 1) _ (by omega) (Or.inl (by omega))
    · rw [if_neg h1]
      refine fst_nz hp q (j + 1) fd (by omega) ?_
      rcases h with h | ⟨i, h2, h3, h4⟩
      · exact Or.inl h
      · by_cases hi : i = j
        · subst hi
          refine Or.inl (fun q => h1 ⟨h4, Or.inl q⟩)
        · exact Or.inr ⟨i, by omega, by omega, h4⟩
theorem fstB_t (hN : NT exM M) {s : Nat} : fstB M true s = true ↔ nN M 8 s ≠ 0 := by
  unfold fstB
  rw [decide_eq_true_iff, hN.z rfl]
  exact ⟨fun h => h.1, fun h => ⟨h, Or.inl rfl⟩⟩
theorem fstB_f (hN : NT exM M) {s : Nat} : fstB M false s = true ↔ nN M 8 s ≠ 0 ∧ nN M 8 s ≠ 1 := by
  unfold fstB
  rw [decide_eq_true_iff, hN.z rfl, hN.eq rfl (by decide)]
  exact ⟨fun h => ⟨h.1, h.2.elim (fun q => by cases q) id⟩, fun h => ⟨h.1, Or.inr h.2⟩⟩
theorem pick4_all {α : Type} {P : α → Prop} {k : Nat} {a b c d e : α} (ha : P a) (hb : P b) (hc : P c) (hd : P d) (he : P e) : P (pick4 k a b c d e) := by
  unfold pick4
  split <;> assumption
theorem Inv.in8 (hI : Inv n k w x y M) (h1t : 1 ≤ t) (ht : t ≤ n) {s : Nat} (hs : s ∈ inL M t) : (1 ≤ s ∧ s ≤ n) ∧ nN M 8 s ≤ 3 := by
  have q := inL_b hI.s h1t ht hs
  exact ⟨⟨q.1, by omega⟩, (hI.d s q.1 (by omega)).1⟩
theorem ask_as (hI : Inv n k w 0 0 M) (h1t : 1 ≤ t) (ht : t ≤ n) (ho : nN M 8 t = 0) {s : Nat} (hs : s ∈ inL M t) (he : nN M 8 s ≠ 0) : AskR M (asM M t s) t := by
  have q := hI.in8 h1t ht hs
  obtain ⟨a, b, c⟩ := as_E (t := t) (s := s) hI (by decide) (by decide) h1t ht ho ⟨by omega, q.2⟩
  exact Or.inr (Or.inr (Or.inl ⟨nN M 8 s, ⟨by omega, q.2⟩, a, fun h2 => by rw [nN, c]; exact hI.f.2.2.1 s q.1.1 q.1.2 h2⟩))
theorem ask_wv (hI : Inv n k w 0 0 M) (h1t : 1 ≤ t) (ht : t ≤ n) (ho : nN M 8 t = 0) (v : Int32) : AskR M (wvM M t v) t :=
  Or.inr (Or.inr (Or.inl ⟨1, ⟨by decide, by decide⟩, (wv_E hI (by decide) (by decide) h1t ht ho v).1, fun q => by omega⟩))
theorem ask_off (hI : Inv n k w 0 0 M) (h1t : 1 ≤ t) (ht : t ≤ n) (ho : nN M 8 t = 0) : AskR M (markM M t (nI 3)) t :=
  Or.inr (Or.inr (Or.inl ⟨3, ⟨by decide, by decide⟩, (mark_E hI (by decide) (by decide) h1t ht ho ⟨by decide, by decide⟩).1, fun q => by omega⟩))
theorem ask_wf (hI : Inv n k w 0 0 M) (h1t : 1 ≤ t) (ht : t ≤ n) (ho : nN M 8 t = 0) {kd : Nat} {ca : Int32} {l : List Nat} (E : NFE M M1 kd t ca l) (hk : kd ≤ 15) (hl : l.length ≤ 24) (hca : ca = -1 ∨ ∃ h, h < nN M 38 0 ∧ ca = nI h) (hm : ∀ o ∈ l, o < nN M 38 0) : AskR M (wfM M1 t (nI (nN M 38 0))) t := by
  have I1 := E.inv hI hk hl hca hm
  have e8 : nN M1 8 = nN M 8 := nN_e (E.2.2.2.2.2.2.2.2.2.2 8 rfl)
  have bd := hI.bd (by decide) (by decide)
  obtain ⟨a, b, c⟩ := wf_E (t := t) (v := nN M 38 0) I1 (by decide) (by decide) h1t ht (by rw [e8]; exact ho) (by omega)
  exact Or.inr (Or.inr (Or.inr ⟨M1, kd, ca, l, E, hk, hl, hca, hm, a, nN_of c (by omega)⟩))
/-- the cause is a failure that there is -/
theorem Inv.f12 (hI : Inv n k w x y M) {s : Nat} (h1 : 1 ≤ s) (h2 : s ≤ n) (h : nN M 8 s = 2) : nN M 12 s < nN M 38 0 ∧ M 12 s = nI (nN M 12 s) := ⟨hI.f.2.2.1 s h1 h2 h, hI.nt 12 s rfl⟩
theorem ask_any (hI : Inv n k w 0 0 M) (h1t : 1 ≤ t) (ht : t ≤ n) (ho : nN M 8 t = 0) : AskR M (anyM M t) t := by
  have hs := hI.s.2 t h1t ht
  have bd := hI.bd (by decide) (by decide)
  have hn := hI.a.1
  have hq : 1 + nN M 16 0 ≤ nN M 16 0 + 1 := by omega
  have eL : anyR M t = anyL M t (eiL M t 1 (nN M 16 0)) 0 0 0 0 := anyF_L hI.nt _ _ _ _ _ _
  unfold anyM
  split
  · exact ask_wv hI h1t ht ho _
  · split
    · generalize hla : (anyR M t).2.2.2 = la
      unfold nonM
      split
      · exact ask_off hI h1t ht ho
      · rename_i hl0
        have hla2 : la = (((eiL M t 1 (nN M 16 0)).filter (c2B M)).getLast?).getD 0 := by rw [← hla, eL, anyL_la hI.nt]
        have hm : la ∈ (eiL M t 1 (nN M 16 0)).filter (c2B M) := by
          cases hg : ((eiL M t 1 (nN M 16 0)).filter (c2B M)).getLast? with
          | none => rw [hg] at hla2; exact absurd hla2 hl0
          | some z => rw [hg, Option.getD_some] at hla2; subst hla2; exact List.mem_of_getLast? hg
        rw [List.mem_filter] at hm
        have hm1 := (eiL_sub hI (Nat.le_refl 1) hq).mp hm.1
        have hm2 : nN M 8 la = 2 := of_decide_eq_true hm.2
        have hf := hI.f12 hm1.2.1.1 hm1.2.1.2.1 hm2
        rw [hf.2]
        have NF := nf_E (M := M) (kd := 2) (at' := t) (ca := nI (nN M 12 la)) hI.nt (by omega) (by omega) (by omega)
        have NF2 := nonF_E (t := t) hI.nt (nN_lt M 12) (nN M 10 la - 1) 1 [] _ NF (by rw [List.length_nil]; omega)
        rw [List.nil_append] at NF2
        refine ask_wf hI h1t ht ho NF2 (by decide) ?_ (Or.inr ⟨_, hf.1, rfl⟩) ?_
        · rw [List.length_map]
          have := eiL_len (t := t) hI (Nat.le_refl 1) (q := nN M 10 la - 1) (by omega) (c2B M)
          have := hs.1.2.1
          omega
        · intro o ho2
          obtain ⟨s, h1, rfl⟩ := List.mem_map.mp ho2
          rw [List.mem_filter] at h1
          have h2 := (eiL_sub hI (Nat.le_refl 1) (q := nN M 10 la - 1) (by omega)).mp h1.1
          exact (hI.f12 h2.2.1.1 h2.2.1.2.1 (of_decide_eq_true h1.2)).1
    · exact Or.inl rfl
theorem ask_R (hI : Inv n k w 0 0 M) (h1t : 1 ≤ t) (ht : t ≤ n) (ho : nN M 8 t = 0) (hsm : someB M t = true) : AskR M (askedM M t) t := by
  have hs := hI.s.2 t h1t ht
  have bd := hI.bd (by decide) (by decide)
  have hn := hI.a.1
  obtain ⟨s0, hs0, he0⟩ := (some_iff hI.nt).mp hsm
  have hpos : ∀ s ∈ inL M t, 1 ≤ s := fun s h => (inL_b hI.s h1t ht h).1
  have h4 : 1 ≤ nN M 4 t := by obtain ⟨j, q, _⟩ := inL_mem.mp hs0; omega
  have i0 : iN M t 0 ∈ inL M t := inL_mem.mpr ⟨0, by omega, rfl⟩
  have iL : iN M t (nN M 4 t - 1) ∈ inL M t := inL_mem.mpr ⟨nN M 4 t - 1, by omega, rfl⟩
  have one : nN M 4 t = 1 → nN M 8 (iN M t 0) ≠ 0 := fun q => by
    obtain ⟨j, q1, q2⟩ := inL_mem.mp hs0
    have hj : j = 0 := by omega
    subst hj
    have e : iN M t 0 = s0 := q2
    rw [e]; exact he0
  have fst : ∀ wh, fstN M t wh ≠ 0 → AskR M (asM M t (fstN M t wh)) t := fun wh h => by
    rcases fst_in (M := M) (t := t) (wh := wh) (kI M t) 0 0 (by show 0 + nN M 4 t ≤ nN M 4 t; omega) with h2 | h2
    · exact absurd h2 h
    · refine ask_as hI h1t ht ho h2.1 ?_
      cases wh
      · exact ((fstB_f hI.nt).mp h2.2).1
      · exact (fstB_t hI.nt).mp h2.2
  have fst0 : fstN M t true ≠ 0 := by
    obtain ⟨j, q1, q2⟩ := inL_mem.mp hs0
    refine fst_nz hpos (kI M t) 0 0 (by show 0 + nN M 4 t ≤ nN M 4 t; omega) (Or.inr ⟨j, Nat.zero_le _, by show j < 0 + nN M 4 t; omega, (fstB_t hI.nt).mpr ?_⟩)
    have e : iN M t j = s0 := q2
    rw [e]; exact he0
  unfold askedM
  generalize hso : nN M 2 t = so at hs
  unfold askF
  split
  · -- then
    have h0 := one (hs.1.2.2.2.1 (Or.inl rfl))
    unfold thenM
    split
    · exact ask_as hI h1t ht ho i0 h0
    · refine pick4_all (P := fun m => AskR M m t) (ask_wv hI h1t ht ho _) (ask_wv hI h1t ht ho _) (ask_wv hI h1t ht ho _) (ask_wv hI h1t ht ho _) ?_
      split
      · exact ask_wf hI h1t ht ho (nf_E hI.nt (by decide) (by omega) (by omega)) (by decide) (by decide) (Or.inl rfl) (fun o q => by cases q)
      · exact ask_wv hI h1t ht ho _
  · -- both
    unfold bothM
    split
    · rename_i h; exact fst _ h
    · split
      · exact Or.inl rfl
      · exact pick4_all (P := fun m => AskR M m t) (ask_wv hI h1t ht ho _) (ask_wv hI h1t ht ho _) (ask_wv hI h1t ht ho _) (ask_wv hI h1t ht ho _) (ask_wv hI h1t ht ho _)
  · exact fst _ fst0
  · unfold allM
    split
    · rename_i h; exact fst _ h
    · split
      · exact ask_wv hI h1t ht ho _
      · exact Or.inl rfl
  · exact ask_any hI h1t ht ho
  · -- onFailure
    have e7 : nN M 7 t = iN M t (nN M 4 t - 1) := hs.2.2.2.2.1.2.2 (Or.inl rfl)
    unfold onfM
    split
    · exact Or.inl rfl
    · rename_i h1
      split
      · exact ask_as hI h1t ht ho i0 (fun q => h1 ((hI.nt.z rfl).mpr q))
      · split
        · exact Or.inl rfl
        · rename_i h3
          rw [e7] at h3 ⊢
          exact ask_as hI h1t ht ho iL (fun q => h3 ((hI.nt.z rfl).mpr q))
  · -- always
    have e7 : nN M 7 t = iN M t (nN M 4 t - 1) := hs.2.2.2.2.1.2.2 (Or.inr rfl)
    unfold alwM
    rw [e7]
    split
    · exact Or.inl rfl
    · rename_i h1
      have g0 : nN M 8 (iN M t 0) ≠ 0 := fun q => h1 (Or.inl ((hI.nt.z rfl).mpr q))
      have g1 : nN M 8 (iN M t (nN M 4 t - 1)) ≠ 0 := fun q => h1 (Or.inr ((hI.nt.z rfl).mpr q))
      split
      · rename_i h2
        have b0 := hI.in8 h1t ht i0
        have b1 := hI.in8 h1t ht iL
        have f0 := hI.f12 b0.1.1 b0.1.2 ((hI.nt.eq rfl (by decide)).mp h2.1)
        have f1 := hI.f12 b1.1.1 b1.1.2 ((hI.nt.eq rfl (by decide)).mp h2.2)
        have k0 := (hI.f.1 _ f0.1).1
        rw [hI.nt 33 (nN M 12 (iN M t 0)) rfl, f0.2, f1.2]
        have NF := nf_E (M := M) (kd := nN M 33 (nN M 12 (iN M t 0))) (at' := t) (ca := nI (nN M 12 (iN M t 0))) hI.nt (by omega) (by omega) (by omega)
        have NF2 := sup_E (o := nN M 12 (iN M t (nN M 4 t - 1))) NF (nN_lt _ _ _) (by rw [List.length_nil]; omega)
        exact ask_wf hI h1t ht ho NF2 k0 (show 1 ≤ 24 by decide) (Or.inr ⟨_, f0.1, rfl⟩) (fun o q => by rw [List.nil_append, List.mem_singleton] at q; subst q; exact f1.1)
      · split
        · exact ask_as hI h1t ht ho iL g1
        · exact ask_as hI h1t ht ho i0 g0
  · -- limit
    exact ask_as hI h1t ht ho i0 (one (hs.1.2.2.2.1 (Or.inr (Or.inl rfl))))
  · -- closing
    unfold becM
    split
    · rename_i h
      exact Or.inr (Or.inl ⟨hso, (hI.nt.z rfl).mp h, rfl⟩)
    · exact Or.inl rfl
  · exact Or.inl rfl
end ASKS
