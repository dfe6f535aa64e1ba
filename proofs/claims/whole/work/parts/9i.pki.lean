/-! the packages of a run -/
section PKIS
variable {n k w x y y' : Nat} {M M1 M' : MS} {t : Nat} {m3 m4 : Nat → Int32}
theorem bI_nn (b : Bool) : bI b = nI (if b = true then 1 else 0) := by cases b <;> rfl
theorem NT.upb {e : Nat → Bool} (h : NT e M) {f i : Nat} (b : Bool) : NT e (up2 M f i (bI b)) := by rw [bI_nn]; exact h.upn (by split <;> decide)
theorem gonE_R (hI : Inv n k w 0 y M) (hy : y ≤ 1) (h1t : 1 ≤ t) (ht : t ≤ n) (ho : nN M 8 t = 0) (h4 : 1 ≤ nN M 4 t) : EndR M (gonE M t) t := by
  have bd := hI.bd (by decide) hy
  have hn := hI.a.1
  have i0 : iN M t 0 ∈ inL M t := inL_mem.mpr ⟨0, by omega, rfl⟩
  have b0 := hI.in8 h1t ht i0
  unfold gonE
  split
  · rename_i h
    have f0 := hI.f12 b0.1.1 b0.1.2 ((hI.nt.eq rfl (by decide)).mp h)
    rw [f0.2]
    exact endR_wf hI hy h1t ht ho (nf_E hI.nt (by decide) (by omega) (by omega)) (by decide) (by decide) (Or.inr ⟨_, f0.1, rfl⟩) (fun o q => by cases q)
  · exact endR_off hI hy h1t ht ho
theorem supF_E {kd at' : Nat} {ca : Int32} (hN : NT exM M) : ∀ (q j : Nat) (l : List Nat) (M1 : MS), NFE M M1 kd at' ca l → l.length = j → nN M 40 0 + l.length + q + 1 < 2 ^ 31 → NFE M (supF t (nN M 38 0) (nN M 40 0) q j M1) kd at' ca (l ++ (List.range q).map (fun i => nN M 31 (6 * t + j + i)))
  | 0, j, l, M1, E, _, _ => by rw [supF, List.range_zero, List.map_nil, List.append_nil]; exact E
  | q + 1, j, l, M1, E, hl, hb => by
    have e31 := E.2.2.2.2.2.2.2.2.2.2 31 rfl
    rw [supF, e31, hN 31 _ rfl, map_shift]
    subst hl
    have E2 := sup_E (o := nN M 31 (6 * t + l.length)) E (nN_lt _ _ _) (by omega)
    have r := supF_E hN q (l.length + 1) _ _ E2 (by rw [List.length_append]; rfl) (by rw [List.length_append]; show _ + (l.length + 1) + q + 1 < _; omega)
    rw [List.append_assoc] at r
    have e1 : (fun i => nN M 31 (6 * t + (l.length + 1) + i)) = fun i => nN M 31 (6 * t + l.length + (i + 1)) := by funext i; rw [show 6 * t + (l.length + 1) + i = 6 * t + l.length + (i + 1) by omega]
    rw [e1] at r
    exact r
theorem flsE_R (hI : Inv n k w 0 y M) (hy : y ≤ 1) (h1t : 1 ≤ t) (ht : t ≤ n) (ho : nN M 8 t = 0) {kd : Nat} (hk : kd ≤ 15) : NFE M (supF t (nN M 38 0) (nN M 40 0) (nN M 27 t) 0 (flsN M t kd)) kd t (-1) ((List.range (nN M 27 t)).map (fun i => nN M 31 (6 * t + i))) ∧ EndR M (flsE M t kd) t := by
  have bd := hI.bd (by decide) hy
  have hn := hI.a.1
  have d := (hI.d t h1t ht).2.1
  have s := (hI.s.2 t h1t ht).2.2.2.2.2.2.1
  unfold flsE flsN
  have NF := nf_E (M := M) (kd := kd) (at' := t) (ca := -1) hI.nt (by omega) (by omega) (by omega)
  have NF2 := supF_E (t := t) hI.nt (nN M 27 t) 0 [] _ NF rfl (by rw [List.length_nil]; omega)
  rw [List.nil_append, Nat.add_zero] at NF2
  refine ⟨NF2, endR_wf hI hy h1t ht ho NF2 hk ?_ (Or.inl rfl) (fun o q => ?_)⟩
  · rw [List.length_map, List.length_range]; omega
  · obtain ⟨i, h1, rfl⟩ := List.mem_map.mp q
    exact hI.f.2.2.2 t h1t ht i (List.mem_range.mp h1)
theorem ovr_iff (hN : NT exM M) : ovrB M t = true ↔ 9 ≤ nN M 2 t ∧ nN M 8 t = 0 ∧ nN M 19 t = 2 ∧ nN M 23 t = nN M 0 0 := by
  unfold ovrB
  rw [decide_eq_true_iff, hN.le rfl (by decide), hN.z rfl, hN.eq rfl (by decide), hN.e2 rfl rfl]
theorem IR_Ov {e0 : Nat} : OvP n (IR n k w e0 m3 m4) := by
  refine ⟨fun M t b hJ => ?_, fun M t hJ h1t ht hov h24 => ?_, fun M t hJ h1t ht hov h24 => ?_⟩
  · have hI := (JJ_R.mp hJ).1
    exact JJ_cg hJ (hI.cg (hI.nt.upb b) (fun f hf => up2_f (fne hf rfl))) (up2_f (by decide)) (up2_f (by decide)) (up2_f (by decide)) (up2_f (by decide))
  · have hI := (JJ_R.mp hJ).1
    obtain ⟨h9, ho, h19, h23⟩ := (ovr_iff hI.nt).mp hov
    have h24' : nN M 24 t = 1 := (hI.nt.eq rfl (by decide)).mp h24
    have h11 := (((hI.d t h1t ht).2.2.2.2 h9).2 ho).2.2.2.2.1 h19 h24'
    have h4 : nN M 4 t = 1 := (hI.s.2 t h1t ht).1.2.2.2.1 (Or.inr (Or.inr (Or.inl h11)))
    refine ⟨by show 1 ≤ nN M 4 t; omega, fun _ => ?_, fun _ => ?_, fun _ _ => ?_⟩
    · obtain ⟨E, I2⟩ := wt_E hI h1t ht ho h9 h19 h24'
      exact JJ_cg hJ I2 (E.2.2.2 3 rfl) (E.2.2.2 4 rfl) (E.2.2.2 17 rfl) (E.2.2.2 16 rfl)
    · obtain ⟨E, I2⟩ := se_E (y' := 0) hI h1t ht ho h11 (Or.inl h19) (by rw [h19, h24']; decide)
      exact JJ_cg hJ I2 (E.2.2.2.2 3 rfl) (E.2.2.2.2 4 rfl) (E.2.2.2.2 17 rfl) (E.2.2.2.2 16 rfl)
    · exact (gonE_R hI (by decide) h1t ht ho (by omega)).JJ hJ h1t ht ho
  · have hI := (JJ_R.mp hJ).1
    obtain ⟨h9, ho, h19, h23⟩ := (ovr_iff hI.nt).mp hov
    refine ⟨fun q => ?_, fun v => (endR_wv hI (by decide) h1t ht ho v).JJ hJ h1t ht ho, fun kd hk hp => ?_, fun kd hk _ => (flsE_R hI (by decide) h1t ht ho hk).2.JJ hJ h1t ht ho⟩
    · have h11 : nN M 2 t = 11 := (hI.nt.eq rfl (by decide)).mp q
      have h4 : nN M 4 t = 1 := (hI.s.2 t h1t ht).1.2.2.2.1 (Or.inr (Or.inr (Or.inl h11)))
      show 1 ≤ nN M 4 t; omega
    · unfold psB at hp
      rw [Bool.and_eq_true, Bool.and_eq_true] at hp
      obtain ⟨E, I2⟩ := pz_E hI h1t ht ho ((hI.nt.eq rfl (by decide)).mp (of_decide_eq_true hp.1)) h19 hk ((hI.nt.l2 rfl rfl).mp (of_decide_eq_true hp.2.2))
      have ef := E.2.2.2.2.2
      exact JJ_cg hJ I2 (ef 3 rfl) (ef 4 rfl) (ef 17 rfl) (ef 16 rfl)
theorem hgA_nt (u : Nat) : ∀ (q t : Nat) (M : MS), NT exM M → NT exM (hgA u q t M)
  | 0, _, _, h => h
  | q + 1, t, M, h => hgA_nt u q (t + 1) _ (h.upb _)
theorem hgI_nt (t : Nat) : ∀ (q j : Nat) (M : MS), NT exM M → NT exM (hgI t q j M)
  | 0, _, _, h => h
  | q + 1, j, M, h => hgI_nt t q (j + 1) _ (h.upn (by decide))
theorem hgC_nt : ∀ (t : Nat) (M : MS), NT exM M → NT exM (hgC t M)
  | 0, _, h => h
  | t + 1, M, h => by
    rw [hgC]
    refine hgC_nt t _ ?_
    split
    · exact h
    · exact hgI_nt _ _ _ _ h
theorem tkH_nt {u : Nat} (h : NT exM M) : NT exM (tkH n M u) := by
  unfold tkH
  split
  · exact h
  · exact hgC_nt _ _ (hgA_nt _ _ _ _ h)
theorem Inv.tkH {u : Nat} (hI : Inv n k w x y M) : Inv n k w x y (tkH n M u) := hI.cg (tkH_nt hI.nt) (fun f hf => tkH_o (fne hf rfl))
theorem may_iff (hN : NT exM M) {u : Nat} : mayB M u t = true ↔ 9 ≤ nN M 2 t ∧ nN M 8 t = 0 ∧ nN M 19 t = 1 ∧ (u = 0 ∨ nN M 56 t ≠ 0) := by
  unfold mayB
  rw [decide_eq_true_iff, hN.le rfl (by decide), hN.z rfl, hN.eq rfl (by decide), hN.z (f := 56) rfl]
theorem tke_R (hI : Inv n k w 0 0 M) {c u : Nat} : tkeM n M c u = tkH n M u ∨ ∃ b, (1 ≤ b ∧ b ≤ n ∧ 9 ≤ nN M 2 b ∧ nN M 8 b = 0 ∧ nN M 19 b = 1) ∧ tkeM n M c u = tkA (tkH n M u) c b ∧ b = bstN n (tkH n M u) u := by
  unfold tkeM
  split
  · exact Or.inl rfl
  · rename_i h
    refine Or.inr ⟨_, ?_, rfl, rfl⟩
    rcases bstF_or (tkH n M u) u n 1 0 with q | ⟨q1, q2, q3⟩
    · exact absurd q h
    · have m := (may_iff (tkH_nt hI.nt)).mp q3
      rw [nN_e (tkH_o (by decide)), nN_e (tkH_o (by decide)), nN_e (tkH_o (by decide))] at m
      exact ⟨q1, by show bstF (tkH n M u) u n 1 0 ≤ n; omega, m.1, m.2.1, m.2.2.1⟩
theorem IR_Tn {e0 : Nat} (hn : n ≤ 200) : TnP n k (IR n k w e0 m3 m4) := by
  refine ⟨fun M c u hJ h1c hck hu => ?_, fun M c v hJ => ?_, fun M c z hJ h1c hck hup h1z hz h19 => ?_⟩
  · have hI := (JJ_R.mp hJ).1
    have IH := hI.tkH (u := u)
    have J1 : JJ (IR n k w e0 m3 m4) (tkH n M u) := JJ_cg hJ IH (tkH_o (by decide)) (tkH_o (by decide)) (tkH_o (by decide)) (tkH_o (by decide))
    rcases tke_R hI (c := c) (u := u) with h | ⟨b, ⟨h1, h2, h3, h4, h5⟩, h6, -⟩
    · rw [h]; exact J1
    · rw [h6]
      have g2 : 9 ≤ nN (tkH n M u) 2 b := by rw [nN_e (tkH_o (by decide))]; exact h3
      have E := tk_E (c := c) (b := b) IH (by decide) hck h1 h2 g2
      have I2 := tk_inv IH h1c hck h1 h2 (by rw [nN_e (tkH_o (by decide))]; exact h4) g2 (by rw [nN_e (tkH_o (by decide))]; exact h5) E
      have ef := E.2.2.2.2
      exact JJ_cg J1 I2 (ef 3 rfl) (ef 4 rfl) (ef 17 rfl) (ef 16 rfl)
  · have hI := (JJ_R.mp hJ).1
    exact JJ_cg hJ (hI.cg (hI.nt.upx rfl) (fun f hf => up2_f (fne hf rfl))) (up2_f (by decide)) (up2_f (by decide)) (up2_f (by decide)) (up2_f (by decide))
  · obtain ⟨hI, g3, g4, g17, ge⟩ := JJ_R.mp hJ
    have hk := hI.a.2.2.1
    obtain ⟨u, u1, u2, u3⟩ := up_in hI (c := c) (by omega)
    have huz : u = z := (nI_eq (by omega) (by omega)).mp (u2.symm.trans hup)
    subst huz
    have hm : u ∈ plM M c := u3.elim (fun q => by omega) id
    have pp := (hI.p c (by omega)).2.2 u hm
    have ho := pp.2.2.2.1
    have h9 := pp.2.2.1
    have h19' : nN M 19 u = 3 := (hI.nt.eq rfl (by decide)).mp h19
    have h11 := (((hI.d u h1z hz).2.2.2.2 h9).2 ho).2.2.1 h19'
    have h4 : nN M 4 u = 1 := (hI.s.2 u h1z hz).1.2.2.2.1 (Or.inr (Or.inr (Or.inl h11)))
    refine ⟨by show 1 ≤ nN M 4 u; omega, fun hin => ?_⟩
    obtain ⟨I1, lg, N1, o1⟩ := hI.note (t := u) (ev := 6) (by decide) (by omega) (by decide)
    generalize hM1 : noteM M (nN M 53 0) (nI u) (nI 6) = M1 at I1 lg N1 o1
    have e8 : nN M1 8 = nN M 8 := nN_e (o1 8 rfl)
    have e2 : nN M1 2 = nN M 2 := nN_e (o1 2 rfl)
    have e4 : nN M1 4 = nN M 4 := nN_e (o1 4 rfl)
    have e19 : nN M1 19 = nN M 19 := nN_e (o1 19 rfl)
    have e24 : nN M1 24 = nN M 24 := nN_e (o1 24 rfl)
    have ei : iN M1 u 0 = iN M u 0 := by unfold iN; rw [nN_e (o1 3 rfl)]
    have hoM : nN M1 8 u = 0 := by rw [e8]; exact ho
    obtain ⟨ES, IS⟩ := se_E (y' := 0) I1 h1z hz hoM (by rw [e2]; exact h11) (Or.inr (by rw [e19]; exact h19')) (by rw [e19, h19']; exact (show 1 + 1 ≤ 0 + 2 by decide))
    have ER := gonE_R I1 (by decide) h1z hz hoM (by rw [e4]; omega)
    have IE : Inv n k w 0 0 (gonE M1 u) := ER.inv I1 h1z hz hoM (by rw [e2, e19, h11, h19']; exact (show 1 + 1 ≤ 0 + 2 by decide))
    have fE := ER.fr
    have JE : JJ (IR n k w (nN M 16 0 + 1) m3 m4) (gonE M1 u) := JJ_R.mpr ⟨IE, fE.1.trans ((o1 3 rfl).trans g3), fE.2.1.trans ((o1 4 rfl).trans g4), by rw [nN_e fE.2.2.1, nN_e (o1 17 rfl), ER.e16, nN_e (o1 16 rfl)]; omega, by rw [ER.e16, nN_e (o1 16 rfl)]; omega⟩
    refine ⟨I1.mk (by decide) (by decide) h1z hz hoM, fun _ => ?_, fun _ => ?_, fun hr => ?_⟩
    · have ef := ES.2.2.2.2
      exact JJ_cg hJ IS ((ef 3 rfl).trans (o1 3 rfl)) ((ef 4 rfl).trans (o1 4 rfl)) ((ef 17 rfl).trans (o1 17 rfl)) ((ef 16 rfl).trans (o1 16 rfl))
    · obtain ⟨a, b, c, d, e⟩ := JJ_R.mp JE
      exact JJ_R.mpr ⟨a, b, c, d, by omega⟩
    · unfold resM at hr ⊢
      rw [hM1] at hr ⊢
      unfold gonM at hr ⊢
      by_cases hv : M1 8 (iN M1 u 0) = nI 1
      · rw [if_pos hv] at hr
        exfalso
        apply hr
        rw [ES.2.2.2.2 8 rfl]
        exact (I1.nt.z rfl).mpr hoM
      · rw [if_neg hv]
        have := (JJ_R.mp (fol_J (IR_FP hn) JE hz)).2.2.2.2
        omega
theorem Inv.clk (hI : Inv n k w x y M) (hw : w + 1 ≤ 10000) : Inv n k (w + 1) x y (up2 M 0 0 (nI (w + 1))) := by
  have e : ∀ f, f ≠ 0 → nN (up2 M 0 0 (nI (w + 1))) f = nN M f := fun f h => nN_f h
  have o : ∀ f, f ≠ 0 → up2 M 0 0 (nI (w + 1)) f = M f := fun f h => up2_f h
  have ep : plM (up2 M 0 0 (nI (w + 1))) = plM M := funext (fun c => pl_e (up2_f (by decide)) (up2_f (by decide)))
  obtain ⟨h0, ⟨a1, a2, a3, a4, a5, a6, a7⟩, h2, h3, h4, h5, h6, h7, h8, h9⟩ := hI
  refine ⟨h0.upn (by omega), ⟨a1, a2, a3, hw, by rw [e 1 (by decide)]; exact a5, by rw [e 45 (by decide)]; exact a6, by rw [nN_sn (by omega), vu_s]⟩, ?_, ?_, ?_, ?_, ?_, ?_, ?_, ?_⟩
  · show iS n _ _ _ _ _ _ _ _
    rw [e 2 (by decide), e 3 (by decide), e 4 (by decide), e 5 (by decide), e 7 (by decide), e 18 (by decide), e 29 (by decide), e 30 (by decide)]; exact h2
  · show iZ n _ _ _ _ _ _ _ _ _ _ _ _ _ _ _
    rw [e 4 (by decide), e 7 (by decide), e 8 (by decide), e 9 (by decide), e 10 (by decide), e 13 (by decide), e 21 (by decide), e 22 (by decide), e 25 (by decide), e 26 (by decide), e 27 (by decide), e 29 (by decide), e 30 (by decide), o 14 (by decide), o 11 (by decide)]; exact h3
  · show iD n 12 _ _ _ _ _ _ _ _
    rw [e 2 (by decide), e 8 (by decide), e 19 (by decide), e 21 (by decide), e 24 (by decide), e 25 (by decide), e 27 (by decide), e 29 (by decide)]; exact h4
  · show iE n _ _ _ _
    rw [e 16 (by decide), e 8 (by decide), e 10 (by decide), e 15 (by decide)]; exact h5
  · show iF n _ _ _ _ _ _ _ _ _ _ _
    rw [e 38 (by decide), e 40 (by decide), e 8 (by decide), e 12 (by decide), e 27 (by decide), e 31 (by decide), e 33 (by decide), e 36 (by decide), e 37 (by decide), e 39 (by decide), o 35 (by decide)]; exact h6
  · show iB n _ _ _ _ _ _ _ _ _ _ _ _
    rw [e 16 (by decide), e 38 (by decide), e 40 (by decide), e 53 (by decide), e 2 (by decide), e 8 (by decide), e 19 (by decide), e 21 (by decide), e 24 (by decide), e 27 (by decide)]; exact h7
  · show iP n k _ _ _ _ _
    rw [e 2 (by decide), e 8 (by decide), e 19 (by decide), e 25 (by decide), ep]; exact h8
  · show iH _ _ _ _
    rw [e 44 (by decide), e 41 (by decide), e 42 (by decide), e 43 (by decide)]; exact h9
theorem Inv.up13 (hI : Inv n k w x y M) (h1t : 1 ≤ t) (ht : t ≤ n) : Inv n k w x y (up2 M 13 t (nI 1)) := by
  have e : ∀ f, f ≠ 13 → nN (up2 M 13 t (nI 1)) f = nN M f := fun f h => nN_f h
  have o : ∀ f, f ≠ 13 → up2 M 13 t (nI 1) f = M f := fun f h => up2_f h
  have ep : plM (up2 M 13 t (nI 1)) = plM M := funext (fun c => pl_e (up2_f (by decide)) (up2_f (by decide)))
  obtain ⟨h0, ⟨a1, a2, a3, a4, a5, a6, a7⟩, h2, h3, h4, h5, h6, h7, h8, h9⟩ := hI
  refine ⟨h0.upn (by decide), ⟨a1, a2, a3, a4, by rw [e 1 (by decide)]; exact a5, by rw [e 45 (by decide)]; exact a6, by rw [e 0 (by decide)]; exact a7⟩, ?_, ?_, ?_, ?_, ?_, ?_, ?_, ?_⟩
  · show iS n _ _ _ _ _ _ _ _
    rw [e 2 (by decide), e 3 (by decide), e 4 (by decide), e 5 (by decide), e 7 (by decide), e 18 (by decide), e 29 (by decide), e 30 (by decide)]; exact h2
  · show iZ n _ _ _ _ _ _ _ _ _ _ _ _ _ _ _
    rw [e 4 (by decide), e 7 (by decide), e 8 (by decide), e 9 (by decide), e 10 (by decide), e 21 (by decide), e 22 (by decide), e 25 (by decide), e 26 (by decide), e 27 (by decide), e 29 (by decide), e 30 (by decide), o 14 (by decide), o 11 (by decide)]
    intro u q1 q2
    obtain ⟨⟨z1, z2, z3, z4, z5, z6, z7, z8⟩, y⟩ := h3 u q1 q2
    exact ⟨⟨z1, z2, z3, z4, z5, by rw [nN_sn (by decide), vu_n (by omega)]; exact z6, z7, z8⟩, y⟩
  · show iD n 12 _ _ _ _ _ _ _ _
    rw [e 2 (by decide), e 8 (by decide), e 19 (by decide), e 21 (by decide), e 24 (by decide), e 25 (by decide), e 27 (by decide), e 29 (by decide)]; exact h4
  · show iE n _ _ _ _
    rw [e 16 (by decide), e 8 (by decide), e 10 (by decide), e 15 (by decide)]; exact h5
  · show iF n _ _ _ _ _ _ _ _ _ _ _
    rw [e 38 (by decide), e 40 (by decide), e 8 (by decide), e 12 (by decide), e 27 (by decide), e 31 (by decide), e 33 (by decide), e 36 (by decide), e 37 (by decide), e 39 (by decide), o 35 (by decide)]; exact h6
  · show iB n _ _ _ _ _ _ _ _ _ _ _ _
    rw [e 16 (by decide), e 38 (by decide), e 40 (by decide), e 53 (by decide), e 2 (by decide), e 8 (by decide), e 19 (by decide), e 21 (by decide), e 24 (by decide), e 27 (by decide)]; exact h7
  · show iP n k _ _ _ _ _
    rw [e 2 (by decide), e 8 (by decide), e 19 (by decide), e 25 (by decide), ep]; exact h8
  · show iH _ _ _ _
    rw [e 44 (by decide), e 41 (by decide), e 42 (by decide), e 43 (by decide)]; exact h9
theorem lm_R (hI : Inv n k w 0 0 M) (h1t : 1 ≤ t) (ht : t ≤ n) (ho : nN M 8 t = 0) : EndR (up2 M 13 t (nI 1)) (lmE M t) t := by
  have bd := hI.bd (by decide) (by decide)
  have hn := hI.a.1
  have I1 := hI.up13 h1t ht
  have e38 : nN (up2 M 13 t (nI 1)) 38 0 = nN M 38 0 := by rw [nN_f (by decide)]
  have NF := nf_E (M := up2 M 13 t (nI 1)) (kd := 5) (at' := t) (ca := -1) I1.nt (by decide) (by omega) (by rw [e38]; omega)
  have R := endR_wf I1 (by decide) h1t ht (by rw [nN_f (by decide)]; exact ho) NF (by decide) (by decide) (Or.inl rfl) (fun o q => by cases q)
  rw [e38] at R
  exact R
theorem rst_iff (hN : NT exM M) : rstB M t = true ↔ nN M 2 t = 10 ∧ nN M 8 t = 0 ∧ nN M 19 t = 4 ∧ nN M 28 (6 * t + nN M 27 t - 1) = nN M 0 0 := by
  unfold rstB
  rw [decide_eq_true_iff, hN.eq rfl (by decide), hN.z rfl, hN.eq rfl (by decide), hN.e2 rfl rfl]
theorem rst_J {e0 : Nat} : ∀ (q t : Nat) (M : MS), JJ (IR n k w e0 m3 m4) M → 1 ≤ t → t + q ≤ n + 1 → JJ (IR n k w e0 m3 m4) (rstF q t M)
  | 0, _, _, h, _, _ => h
  | q + 1, t, M, h, h1, h2 => by
    rw [rstF]
    refine rst_J q (t + 1) _ ?_ (by omega) (by omega)
    split
    · rename_i c
      have hI := (JJ_R.mp h).1
      obtain ⟨c1, c2, c3, -⟩ := (rst_iff hI.nt).mp c
      exact JJ_cg h (hI.rdy h1 (by omega) c2 (by omega) (Or.inr c3)) (by rw [up2_f (by decide), up2_f (by decide)]) (by rw [up2_f (by decide), up2_f (by decide)]) (by rw [up2_f (by decide), up2_f (by decide)]) (by rw [up2_f (by decide), up2_f (by decide)])
    · exact h
theorem idl_J {e0 : Nat} : ∀ (q c : Nat) (M : MS), JJ (IR n k w e0 m3 m4) M → JJ (IR n k w e0 m3 m4) (idlF q c M)
  | 0, _, _, h => h
  | q + 1, c, M, h => by
    rw [idlF]
    have hI := (JJ_R.mp h).1
    exact idl_J q (c + 1) _ (JJ_cg h (hI.cg (hI.nt.upx rfl) (fun f hf => up2_f (fne hf rfl))) (up2_f (by decide)) (up2_f (by decide)) (up2_f (by decide)) (up2_f (by decide)))
theorem IR_Rn {e0 : Nat} (hn : n ≤ 200) (hk : k ≤ 12) : RnP n k m3 m4 (fun w => IR n k w e0 m3 m4) := by
  intro w hw
  refine ⟨IR_MP hn hk, fun M t hJ h1t ht _ ho => ?_, IR_Ov, IR_Tn hn, fun M hJ => rst_J n 1 M hJ (Nat.le_refl _) (by omega), fun M hJ => idl_J k 1 M hJ, fun hlt M hJ => ?_⟩
  · have hI := (JJ_R.mp hJ).1
    have ho' := (hI.nt.z rfl).mp ho
    have J1 : JJ (IR n k w e0 m3 m4) (up2 M 13 t (nI 1)) := JJ_cg hJ (hI.up13 h1t ht) (up2_f (by decide)) (up2_f (by decide)) (up2_f (by decide)) (up2_f (by decide))
    exact (lm_R hI h1t ht ho').JJ J1 h1t ht (by rw [nN_f (by decide)]; exact ho')
  · obtain ⟨hI, g3, g4, g6, g7⟩ := JJ_R.mp hJ
    exact JJ_R.mpr ⟨hI.clk (by omega), by rw [up2_f (by decide)]; exact g3, by rw [up2_f (by decide)]; exact g4, by rw [nN_f (by decide), nN_f (by decide)]; exact g6, by rw [nN_f (by decide)]; exact g7⟩
end PKIS
