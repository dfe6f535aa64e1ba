/-! more packages: following, running -/
section PKHS
variable {n k w x y y' : Nat} {M M1 M' : MS} {t : Nat} {m3 m4 : Nat → Int32}
theorem behF_J {I : MS → Prop} (hP : IP n m3 m4 I) : ∀ (q t : Nat) (M : MS), I M → t + q ≤ n + 1 → I (behF q t M)
  | 0, _, _, h, _ => h
  | q + 1, t, M, h, hb => by
    rw [behF]
    refine behF_J hP q (t + 1) _ ?_ (by omega)
    split
    · rename_i c; exact (hP.2.2.1 M t h (by omega) c.1 c.2).2
    · exact h
theorem dueI_J {I : MS → Prop} (hP : IP n m3 m4 I) {s : Nat} (hs : s ≤ n) : ∀ (q j : Nat) (M : MS), I M → j + q ≤ kI M s → I (dueI n s q j M)
  | 0, _, _, h, _ => h
  | q + 1, j, M, h, hb => by
    rw [dueI]
    have key : ∀ M', I M' → j + 1 + q ≤ kI M' s := fun M' h' => by
      have e : kI M' s = kI M s := by unfold kI; rw [(hP.2.1 M' h').2.2.2.1, (hP.2.1 M h).2.2.2.1]
      omega
    have h2 : I (if M 8 (iN M s j) = 0 ∧ srvN M (iN M s j) = 0 then behM n (markM M (iN M s j) (nI 3)) (iN M s j) else M) := by
      split
      · rename_i c
        obtain ⟨⟨-, -, -, q1⟩, q2⟩ := (hP.2.1 M h).2.1 s hs
        have q3 := q1 j (by omega)
        have q4 := q2 j (by omega)
        exact behF_J hP _ _ _ (hP.2.2.2 M _ h q3.2.1 (by omega) c.1).2 (by omega)
      · exact h
    exact dueI_J hP hs q (j + 1) _ h2 (key _ h2)
theorem dueF_J {I : Nat → MS → Prop} (hP : FP n m3 m4 I) : ∀ (q dt : Nat) (M : MS), I dt M → ∃ dt', I dt' (dueF n q M)
  | 0, dt, M, h => ⟨dt, h⟩
  | q + 1, dt, M, h => by
    rw [dueF]
    have hdt := hP.2 dt M h
    have e17 : nN M 17 0 = dt := nN_of (hP.1.2.1 dt M h) (by omega)
    obtain ⟨-, hin, -, -, e, dt', h16, h200, -, -, hE⟩ := (hP.1.1 dt).2.1 M h
    have e16 : nN M 16 0 = e := nN_of h16 (by omega)
    rw [e17, e16]
    by_cases hlt : dt < e
    · rw [if_pos hlt]
      have I2 := hP.1.2.2 dt e M h h16 h200 hlt
      split
      · obtain ⟨g1, g2⟩ := hE (dt + 1) (by omega) (by omega)
        have I3 := dueI_J (hP.1.1 (dt + 1)) g2 (kI M (nN M 15 (dt + 1))) 0 _ I2 (by
          have : kI (up2 M 17 0 (nI (dt + 1))) (nN M 15 (dt + 1)) = kI M (nN M 15 (dt + 1)) := by unfold kI; rw [up2_f (by decide)]
          omega)
        exact dueF_J hP q (dt + 1) _ I3
      · exact dueF_J hP q (dt + 1) _ I2
    · rw [if_neg hlt]; exact ⟨dt, h⟩
theorem fol_J {I : Nat → MS → Prop} (hP : FP n m3 m4 I) (h : JJ I M) {u : Nat} (hu : u ≤ n) : JJ I (folM n M u) := by
  obtain ⟨dt, h1, h2⟩ := h
  obtain ⟨dt', h3⟩ := dueF_J hP 201 dt _ (behF_J (hP.1.1 dt) (n - u) (u + 1) M h2 (by omega))
  exact ⟨dt', hP.2 dt' _ h3, h3⟩
theorem JJ_R {e0 : Nat} : JJ (IR n k w e0 m3 m4) M ↔ Inv n k w 0 0 M ∧ M 3 = m3 ∧ M 4 = m4 ∧ nN M 17 0 ≤ nN M 16 0 ∧ e0 ≤ nN M 16 0 := by
  constructor
  · rintro ⟨dt, h1, h2, h3, h4, h5, h6, h7⟩
    exact ⟨h2, h3, h4, by omega, h7⟩
  · rintro ⟨h2, h3, h4, h6, h7⟩
    have := h2.e.le
    have := h2.a.1
    exact ⟨nN M 17 0, by omega, h2, h3, h4, rfl, h6, h7⟩
/-- an end, of whichever kind -/
def EndR (M M' : MS) (t : Nat) : Prop := (∃ h, (1 ≤ h ∧ h ≤ 3) ∧ EndE M M' t h ∧ (h = 2 → nN M' 12 t < nN M 38 0)) ∨ ∃ M1 kd ca l, NFE M M1 kd t ca l ∧ kd ≤ 15 ∧ l.length ≤ 24 ∧ (ca = -1 ∨ ∃ h, h < nN M 38 0 ∧ ca = nI h) ∧ (∀ o ∈ l, o < nN M 38 0) ∧ EndE M1 M' t 2 ∧ nN M' 12 t = nN M 38 0
theorem EndR.fr (h : EndR M M' t) : M' 3 = M 3 ∧ M' 4 = M 4 ∧ M' 17 = M 17 ∧ M' 0 = M 0 ∧ nN M 16 0 ≤ nN M' 16 0 := AskR.fr (Or.inr (Or.inr h))
theorem EndR.e16 (h : EndR M M' t) : nN M' 16 0 = nN M 16 0 + 1 := by
  rcases h with ⟨h, hh, E, hf⟩ | ⟨M1, kd, ca, l, E, hk, hl, hca, hm, E2, e12⟩
  · exact E.1.2.2.2.2
  · rw [E2.1.2.2.2.2, nN_e (E.2.2.2.2.2.2.2.2.2.2 16 rfl)]
theorem EndR.e8 (h : EndR M M' t) : nN M' 8 t ≠ 0 := by
  rcases h with ⟨h, hh, E, hf⟩ | ⟨M1, kd, ca, l, E, hk, hl, hca, hm, E2, e12⟩
  · rw [E.1.1, vu_s]; omega
  · rw [E2.1.1, vu_s]; omega
theorem nst_1 (so wh pt h : Nat) (hh : 1 ≤ h) : nst so h wh pt = nst so 1 wh pt := by
  unfold nst
  rw [if_neg (show ¬ h = 0 by omega), if_neg (show ¬ (1 : Nat) = 0 by decide)]
theorem EndR.inv (h : EndR M M' t) (hI : Inv n k w 0 y M) (h1t : 1 ≤ t) (ht : t ≤ n) (ho : nN M 8 t = 0) (hy : y + nst (nN M 2 t) 0 (nN M 19 t) (nN M 24 t) ≤ y' + nst (nN M 2 t) 1 (nN M 19 t) (nN M 24 t)) : Inv n k w 0 y' M' := by
  rcases h with ⟨h, hh, E, hf⟩ | ⟨M1, kd, ca, l, E, hk, hl, hca, hm, E2, e12⟩
  · exact E.inv hI h1t ht ho hh hf (by rw [nst_1 _ _ _ h hh.1]; exact hy)
  · have I1 := E.inv hI hk hl hca hm
    have ef := E.2.2.2.2.2.2.2.2.2.2
    have e8 : nN M1 8 = nN M 8 := nN_e (ef 8 rfl)
    exact E2.inv I1 h1t ht (by rw [e8]; exact ho) ⟨by decide, by decide⟩ (fun _ => by rw [e12, E.2.2.2.2.2.1]; omega) (by rw [nst_1 _ _ _ 2 (by decide), nN_e (ef 2 rfl), nN_e (ef 19 rfl), nN_e (ef 24 rfl)]; exact hy)
theorem endR_off (hI : Inv n k w 0 y M) (hy : y ≤ 1) (h1t : 1 ≤ t) (ht : t ≤ n) (ho : nN M 8 t = 0) : EndR M (markM M t (nI 3)) t :=
  Or.inl ⟨3, ⟨by decide, by decide⟩, (mark_E hI (by decide) hy h1t ht ho ⟨by decide, by decide⟩).1, fun q => by omega⟩
theorem endR_wv (hI : Inv n k w 0 y M) (hy : y ≤ 1) (h1t : 1 ≤ t) (ht : t ≤ n) (ho : nN M 8 t = 0) (v : Int32) : EndR M (wvM M t v) t :=
  Or.inl ⟨1, ⟨by decide, by decide⟩, (wv_E hI (by decide) hy h1t ht ho v).1, fun q => by omega⟩
theorem endR_wf (hI : Inv n k w 0 y M) (hy : y ≤ 1) (h1t : 1 ≤ t) (ht : t ≤ n) (ho : nN M 8 t = 0) {kd : Nat} {ca : Int32} {l : List Nat} (E : NFE M M1 kd t ca l) (hk : kd ≤ 15) (hl : l.length ≤ 24) (hca : ca = -1 ∨ ∃ h, h < nN M 38 0 ∧ ca = nI h) (hm : ∀ o ∈ l, o < nN M 38 0) : EndR M (wfM M1 t (nI (nN M 38 0))) t := by
  have I1 := E.inv hI hk hl hca hm
  have e8 : nN M1 8 = nN M 8 := nN_e (E.2.2.2.2.2.2.2.2.2.2 8 rfl)
  have bd := hI.bd (by decide) hy
  obtain ⟨a, b, c⟩ := wf_E (t := t) (v := nN M 38 0) I1 (by decide) hy h1t ht (by rw [e8]; exact ho) (by omega)
  exact Or.inr ⟨M1, kd, ca, l, E, hk, hl, hca, hm, a, nN_of c (by omega)⟩
/-- an end keeps what the packages ask -/
theorem EndR.JJ {e0 : Nat} (h : EndR M M' t) (hJ : JJ (IR n k w e0 m3 m4) M) (h1t : 1 ≤ t) (ht : t ≤ n) (ho : nN M 8 t = 0) : JJ (IR n k w e0 m3 m4) M' := by
  obtain ⟨hI, h3, h4, h6, h7⟩ := JJ_R.mp hJ
  have f := h.fr
  exact JJ_R.mpr ⟨h.inv hI h1t ht ho (Nat.add_le_add_left (nst_le _ _ _ _ (by decide)) 0), f.1.trans h3, f.2.1.trans h4, by rw [nN_e f.2.2.1]; omega, by omega⟩
/-- the changes that keep places, inputs and dues -/
theorem JJ_cg {e0 : Nat} (hJ : JJ (IR n k w e0 m3 m4) M) (hI : Inv n k w 0 0 M') (h3 : M' 3 = M 3) (h4 : M' 4 = M 4) (h17 : M' 17 = M 17) (h16 : M' 16 = M 16) : JJ (IR n k w e0 m3 m4) M' := by
  obtain ⟨-, g3, g4, g6, g7⟩ := JJ_R.mp hJ
  exact JJ_R.mpr ⟨hI, h3.trans g3, h4.trans g4, by rw [nN_e h17, nN_e h16]; exact g6, by rw [nN_e h16]; exact g7⟩
theorem up_in (hI : Inv n k w x y M) {c : Nat} (hc : c ≤ 12) : ∃ u, u ≤ n ∧ upN M c = nI u ∧ (u = 0 ∨ u ∈ plM M c) := by
  unfold upN
  by_cases h : nN M 47 c = 0
  · rw [if_pos h]; exact ⟨0, Nat.zero_le _, rfl, Or.inl rfl⟩
  · rw [if_neg h, hI.nt 46 _ rfl]
    have hm : nN M 46 (201 * c + nN M 47 c - 1) ∈ plM M c := by
      rw [plM, List.mem_map]
      exact ⟨nN M 47 c - 1, List.mem_range.mpr (by omega), by rw [show 201 * c + (nN M 47 c - 1) = 201 * c + nN M 47 c - 1 by omega]⟩
    exact ⟨_, ((hI.p c hc).2.2 _ hm).2.1, rfl, Or.inr hm⟩
theorem Inv.pln (hI : Inv n k w x y M) : plnOk M := ⟨_, hI.nt 44 0 rfl, hI.hh.1, fun j hj => ⟨hI.nt 43 j rfl, hI.hh.2.1 j hj⟩⟩
theorem Inv.p27 (hI : Inv n k w x y M) (ht : t ≤ n) : ∃ q, M 27 t = nI q ∧ q ≤ 5 := by
  by_cases h : t = 0
  · subst h
    have := (hI.zz 0 (Or.inl (by decide)) (by decide)).2.2.2.1
    exact ⟨_, hI.nt 27 0 rfl, by omega⟩
  · have d := (hI.d t (by omega) ht).2.1
    have s := (hI.s.2 t (by omega) ht).2.2.2.2.2.2.1
    exact ⟨_, hI.nt 27 t rfl, by omega⟩
theorem Inv.fc (hI : Inv n k w 0 0 M) : Fc n k w M := by
  have bd := hI.bd (by decide) (by decide)
  obtain ⟨a1, a2, a3, a4, a5, a6, a7⟩ := hI.a
  refine ⟨(hI.nt.eq rfl (by omega)).mpr a5, (hI.nt.eq rfl (by omega)).mpr a6, (hI.nt.eq rfl (by omega)).mpr a7, fun t ht => hI.ino ht, ⟨_, hI.nt 53 0 rfl, by omega⟩, ⟨_, hI.nt 38 0 rfl, by omega⟩, ⟨_, hI.nt 40 0 rfl, by omega⟩, hI.pln, fun t ht => hI.p27 ht, fun c hc => ⟨_, hI.nt 47 c rfl, hI.q47 c hc, ?_⟩⟩
  obtain ⟨u, h1, h2, _⟩ := up_in hI hc
  exact ⟨u, h1, h2⟩
theorem IR_MP {e0 : Nat} (hn : n ≤ 200) (hk : k ≤ 12) : MP n k w m3 m4 (IR n k w e0 m3 m4) := ⟨hn, hk, IR_FP hn, fun M hJ => (JJ_R.mp hJ).1.fc⟩
end PKHS
