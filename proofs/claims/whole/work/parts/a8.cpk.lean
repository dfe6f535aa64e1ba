/-! what the class's contracts ask, out of the relation -/
section CPKS
variable {n k F w x y d wn : Nat} {K K1 K' : MS} {L L' : KL} {M M1 M' : MS} {t h c b : Nat}
theorem Rel.inp (hR : Rel n k F K L M) (hI : Inv n k w x y M) (h1t : 1 ≤ t) (ht : t ≤ n) : inK K n t ∧ (∀ j, j < nN K 12 t → iK K t j < t) ∧ nN K 12 t = nN M 4 t := by
  have a1 := hI.a.1
  have s := hI.s.2 t h1t ht
  have e := (hR.s t h1t ht).2.2.1
  have hb : ∀ j, j < nN K 12 t → 1 ≤ iK K t j ∧ iK K t j < t := fun j hj => by
    rw [e] at hj
    rw [iK_iN hR h1t ht hj]; exact s.2.1 j hj
  refine ⟨⟨hR.nt 12 t rfl, by omega, fun j hj => ⟨hR.nt (1000 + t) j (by unfold exK; exact decide_eq_false (by omega)), (hb j hj).1, by have := (hb j hj).2; omega⟩⟩, fun j hj => (hb j hj).2, e⟩
theorem Rel.hd (hR : Rel n k F K L M) (hI : Inv n k w x y M) (h1t : 1 ≤ t) (ht : t ≤ n) (hw : isWK K t = true) : hdOk K t := by
  have h9 := (isW_iff hR hI h1t ht).mp hw
  refine ⟨hR.nt 31 t rfl, ?_⟩
  rw [(hR.w t h1t ht h9).2.1]
  have a3 := hI.a.2.2.1
  split
  · rename_i q
    have := ((((hI.d t h1t ht).2.2.2.2 h9).2 q.1).1 q.2).2
    omega
  · exact Nat.zero_le _
theorem Rel.md (hR : Rel n k F K L M) (hI : Inv n k w x y M) : mdK K n n := by
  have a1 := hI.a.1
  exact ⟨by rw [hR.nt 0 0 rfl, hR.a.1], Nat.le_refl _, a1, fun j hj => by rw [hR.nt 5 j rfl, hR.a.2.2.2.2 j hj]⟩
theorem Rel.rl (hR : Rel n k F K L M) (hI : Inv n k w x y M) (hx : x ≤ 1) (hy : y ≤ 1) (h1t : 1 ≤ t) (ht : t ≤ n) (hw : isWK K t = false) : rlOk K n F t := by
  have bd := hI.bd hx hy
  have hF := hR.f.1
  have a1 := hI.a.1
  have s := hI.s.2 t h1t ht
  have rs := hR.s t h1t ht
  have h9 : nN M 2 t < 9 := by
    have := isW_iff hR hI h1t ht
    rw [hw] at this
    rcases Nat.lt_or_ge (nN M 2 t) 9 with q | q
    · exact q
    · exact absurd (this.mpr q) (by decide)
  obtain ⟨i1, i2, i3⟩ := hR.inp hI h1t ht
  have e11 : nN K 11 t = if nN M 2 t = 0 then 0 else nN M 2 t + 4 := by rw [rs.2.1]; unfold fm; split; rfl; rw [if_pos (by omega)]
  refine ⟨hR.nt 11 t rfl, by rw [e11]; split <;> omega, fun h5 => ⟨i1, ?_, i2⟩, ⟨hR.nt 13 t rfl, by rw [rs.2.2.2.2.1]; exact s.2.2.2.1.1, fun h => ?_⟩, fun h => ?_, ⟨fun u u1 u2 => hR.nt 18 u rfl, fun f f1 f2 => ⟨hR.nt 50 f rfl, ?_⟩⟩, by omega⟩
  · rw [i3]
    have h0 : nN M 2 t ≠ 0 := fun z => by rw [e11, if_pos z] at h5; omega
    obtain ⟨q1, q2, q3, q4, q5⟩ := s.1.2.2
    have : nN M 2 t = 1 ∨ nN M 2 t = 2 ∨ nN M 2 t = 3 ∨ nN M 2 t = 4 ∨ nN M 2 t = 5 ∨ nN M 2 t = 6 ∨ nN M 2 t = 7 ∨ nN M 2 t = 8 := by omega
    rcases this with z | z | z | z | z | z | z | z
    · have := q2 (Or.inl z); omega
    · exact (q3 (Or.inl z)).1
    · exact (q3 (Or.inr (Or.inl z))).1
    · exact q5 (Or.inl z)
    · exact q5 (Or.inr z)
    · exact (q3 (Or.inr (Or.inr z))).1
    · have := q4 z; omega
    · have := q2 (Or.inr (Or.inl z)); omega
  · rw [rs.2.2.2.2.1]
    exact s.2.2.2.1.2 (Or.inl (by rw [e11] at h; split at h <;> omega))
  · have h5 : nN M 2 t = 5 := by rw [e11] at h; split at h <;> omega
    have e14 : K 14 t = M 7 t := by rw [rs.2.2.2.2.2.1, if_pos h5]
    have e14n : nN K 14 t = nN M 7 t := by unfold nN; rw [e14]
    have s7 := s.2.2.2.2.1.2.1 h5
    exact ⟨by rw [e14n, e14]; exact hI.nt 7 t rfl, by omega, by omega⟩
  · have g := (hR.f.2 (f - 1) (by omega)).1
    rw [show f - 1 + 1 = f by omega] at g
    rw [g]
    exact (hI.f.1 (f - 1) (by omega)).1
theorem Rel.cf (hR : Rel n k F K L M) (hI : Inv n k w x y M) (hx : x ≤ 1) (hy : y ≤ 1) : CF n F K := by
  have a1 := hI.a.1
  have e := hI.e.le
  refine ⟨a1, hR.md hI, ⟨nN M 16 0, by rw [hR.nt 3 0 rfl, hR.a.2.2.2.1], by omega, fun t h1 h2 ho => ?_⟩, hR.jr hI hx hy, hR.la, fun t h1 h2 => ⟨by rw [hR.nt 10 t rfl, (hR.s t h1 h2).1], (hR.inp hI h1 h2).1, (hR.inp hI h1 h2).2.1, hR.hd hI h1 h2, fun hw _ => hR.rl hI hx hy h1 h2 hw⟩⟩
  have h8 : nN M 8 t = 0 := Classical.byContradiction (fun z => ho ((hR.k16 hI h1 h2).1.mpr z))
  have := hI.e.lt h1 h2 h8
  omega
/-- an end, any time of a walk -/
theorem BS.end {r : Rs} (hB : BS n k w d F K L M) (h1t : 1 ≤ t) (ht : t ≤ n) (ho : nN M 8 t = 0) (hr : RsM n F M M' t r) : BS n k w d (resF F r) (nteK (resK K t F r) t) L M' ∧ (∃ l, lsL (nteK (resK K t F r) t) 13 = lsL K 13 ++ l) ∧ nI 5 ≤ resK K t F r 16 t := by
  obtain ⟨hR, hI, hN, hD, hd⟩ := hB
  have a1 := hI.a.1
  have m13 := hD.m13 hI hd
  obtain ⟨z0, z1, z2, z3, z4, z5⟩ := res_sim hR hI (by decide) h1t ht ho hr (Or.inl (fun z => m13 t z ho)) (by have := hR.la.l13; omega)
  have I2 := AskR.inv (Or.inr (Or.inr z2)) hI h1t ht ho
  have hnd := (hN t h1t ht ho).1
  have hdue : dueB M' t = true ↔ nN M' 8 t = 3 := by
    rw [due_iff z2.e10.2.2.2, nN_e z2.e10.2.2.1, hnd]
    exact ⟨fun z => z.elim id (fun z => absurd rfl z), Or.inl⟩
  have D2 : DR d (nteK (resK K t F r) t) M' := hD.end hI hd z2 ho (by
    rw [z4]
    by_cases c : nN M' 8 t = 3
    · rw [if_pos c, if_pos (hdue.mpr c)]
    · rw [if_neg c, if_neg (fun z => c (hdue.mp z))])
  exact ⟨⟨z3, I2, hN.end z2, D2, by rw [z2.e16]; omega⟩, ⟨_, z4⟩, z1⟩
def IKw (n k w wn : Nat) (K : MS) (F : Nat) (L : KL) : Prop := FX wn K F ∧ ∃ M d, BS n k w d F K L M
theorem BS.hd (hB : BS n k w d F K L M) (h1t : 1 ≤ t) (ht : t ≤ n) (r : Rs) : isWK (resK K t F r) t = true → nN (resK K t F r) 31 t ≤ 12 := fun hw => by
  have e : isWK (resK K t F r) t = isWK K t := by unfold isWK; rw [res_o (by decide) (by decide) (by decide) (by decide) (by decide)]
  have e2 : nN (resK K t F r) 31 t = nN K 31 t := by unfold nN; rw [res_o (by decide) (by decide) (by decide) (by decide) (by decide)]
  rw [e] at hw
  rw [e2]
  exact (hB.1.hd hB.2.1 h1t ht hw).2
theorem BS.F5 (hB : BS n k w d F K L M) : F < 1202 := by
  have bd := hB.2.1.bd (by decide) (by decide)
  have := hB.1.f.1
  omega
theorem BS.fx {r : Rs} (hB : BS n k w d F K L M) (hX : FX wn K F) (h1t : 1 ≤ t) (ht : t ≤ n) : FX wn (nteK (resK K t F r) t) (resF F r) := (hX.res (by have := hB.F5; omega) r).ot (Fx.nte (hB.hd h1t ht r))
theorem BS.rest (hX : FX wn K F) (hR : Rel n k F K L M) (hI : Inv n k w 0 0 M) (hN : Nd n M) (h13 : lsL K 13 = []) : IKw n k w wn K F L := ⟨hX, M, nN M 16 0, hR, hI, hN, DR.nil h13, Nat.le_refl _⟩
theorem ik_En : EnP n (IKw n k w wn) := by
  refine ⟨fun L => ⟨fun F => ⟨fun K ⟨hX, M, d, hB⟩ => hB.1.cf hB.2.1 (by decide) (by decide), fun K s j ⟨hX, M, d, hB⟩ hs hj ho h22 => ?_⟩, fun K F t ⟨hX, M, d, hB⟩ h1 h2 => ?_, fun K F t ⟨hX, M, d, hB⟩ h1 h2 hw ho hr => ?_⟩, fun K F L ⟨hX, M, d, hB⟩ => ?_, fun K F L t ⟨hX, M, d, hB⟩ h1 h2 ho => ?_⟩
  · have iq := (hB.1.inp hB.2.1 (hB.1.la.m13 s hs).1 (hB.1.la.m13 s hs).2).1.2.2 j hj
    have h8 : nN M 8 (iK K s j) = 0 := Classical.byContradiction (fun z => ho ((hB.1.k16 hB.2.1 iq.2.1 iq.2.2).1.mpr z))
    obtain ⟨B2, ⟨l, e⟩, -⟩ := BS.end (r := rsO) hB iq.2.1 iq.2.2 h8 (Or.inr (Or.inr (Or.inl ⟨rfl, rfl⟩)))
    exact ⟨⟨hB.fx (r := rsO) hX iq.2.1 iq.2.2, _, d, B2⟩, by show s ∈ lsL (nteK (resK K (iK K s j) F rsO) (iK K s j)) 13; rw [e]; exact List.mem_append_left _ hs⟩
  · refine ⟨?_, ?_⟩
    · unfold stpS
      split
      · split
        · exact hX.ot Fx.rdy
        · exact hX
      · split
        · exact hX
        · split
          · exact hX
          · exact hB.fx hX h1 h2
    · obtain ⟨hR, hI, hN, hD, hd⟩ := hB
      obtain ⟨r1, r2, r3, r4, -, -, r7⟩ := stp_sim hR hI hN hD hd (hD.m13 hI hd) h1 h2
      exact ⟨_, d, r1, r2, r3, r4, by omega⟩
  · obtain ⟨hR, hI, hN, hD, hd⟩ := hB
    have h8 : nN M 8 t = 0 := Classical.byContradiction (fun z => ho ((hR.k16 hI h1 h2).1.mpr z))
    have h9 : nN M 2 t < 9 := by
      have := isW_iff hR hI h1 h2
      rw [hw] at this
      rcases Nat.lt_or_ge (nN M 2 t) 9 with q | q
      · exact q
      · exact absurd (this.mpr q) (by decide)
    rcases rul_all hR hI (by decide) h1 h2 h8 h9 with ⟨e, -⟩ | ⟨-, -, r', e1, e2, e3⟩
    · rw [e] at hr; exact absurd rfl hr
    · rw [e1]
      exact (BS.end ⟨hR, hI, hN, hD, hd⟩ h1 h2 h8 e3).2.2
  · obtain ⟨hR, hI, hN, hD, hd⟩ := hB
    obtain ⟨R2, l2⟩ := hR.clr hI.a.1
    exact BS.rest (hX.ot (Fx.ls (a := 13) (by decide) (clr_e 13))) R2 hI hN l2
  · have h8 : nN M 8 t = 0 := Classical.byContradiction (fun z => ho ((hB.1.k16 hB.2.1 h1 h2).1.mpr z))
    exact ⟨hB.fx (r := rsO) hX h1 h2, _, d, (BS.end (r := rsO) hB h1 h2 h8 (Or.inr (Or.inr (Or.inl ⟨rfl, rfl⟩)))).1⟩
theorem DR.same (hD : DR d K M) (l13 : lsL K' 13 = lsL K 13) (h8 : M' 8 = M 8) (h13 : M' 13 = M 13) (h15 : M' 15 = M 15) (h16 : M' 16 = M 16) : DR d K' M' := by
  unfold DR at *
  have e1 : dueB M' = dueB M := by funext s; unfold dueB; rw [h8, h13]
  have e2 : ∀ p q, enR M' p q = enR M p q := fun p q => by unfold enR; rw [nN_e h15]
  rw [l13, hD, e1, e2, nN_e h16]
theorem ik_Ep : EpP n (IKw n k w wn) := fun K F L t ⟨hX, M, d, hR, hI, hN, hD, hd⟩ h1 h2 hw h4 => by
  have h9 := (isW_iff hR hI h1 h2).mp hw
  have h4' := (hR.nt.eq rfl (by decide)).mp h4
  rw [(hR.d t h1 h2).1] at h4'
  unfold stt at h4'
  have h8 : nN M 8 t = 0 := Classical.byContradiction (fun z => by rw [if_neg z] at h4'; omega)
  rw [if_pos h8, if_neg (by omega)] at h4'
  obtain ⟨R1, l13⟩ := hR.rdy hI h1 h2 h8 h9 (Or.inr h4')
  have o : ∀ f, f ≠ 19 → f ≠ 20 → up2 (up2 M 19 t (nI 1)) 20 t (M 0 0) f = M f := fun f a b => by rw [up2_f b, up2_f a]
  refine ⟨hX.ot Fx.rdy, _, d, R1, hI.rdy h1 h2 h8 h9 (Or.inr h4'), fun u a b c => ?_, hD.same l13 (o 8 (by decide) (by decide)) (o 13 (by decide) (by decide)) (o 15 (by decide) (by decide)) (o 16 (by decide) (by decide)), by rw [nN_e (o 16 (by decide) (by decide))]; exact hd⟩
  rw [nN_e (o 8 (by decide) (by decide))] at c
  rw [nN_e (o 13 (by decide) (by decide)), nN_e (o 26 (by decide) (by decide))]; exact hN u a b c
theorem ik_Lm : LmP n (IKw n k w wn) := fun K F L t ⟨hX, M, d, hR, hI, hN, hD, hd⟩ h13 h1t ht h11 h16 => by
  have a1 := hI.a.1
  have bd := hI.bd (by decide) (by decide)
  have hF0 := hR.f.1
  have ho : nN M 8 t = 0 := Classical.byContradiction (fun z => h16 ((hR.k16 hI h1t ht).1.mpr z))
  refine ⟨by omega, ?_⟩
  obtain ⟨R0, l0⟩ := hR.add13 a1 h13 h1t ht
  have I0 := hI.up13 h1t ht
  have R1 : Rel n k F (addK K 13 t) L (up2 M 13 t (nI 1)) := R0.mcg a1 (fun f _ b _ => up2_f b)
  have e38 : nN (up2 M 13 t (nI 1)) 38 0 = F := by rw [nN_f (by decide)]; exact hF0
  have ho1 : nN (up2 M 13 t (nI 1)) 8 t = 0 := by rw [nN_f (by decide)]; exact ho
  have NF := nf_E (M := up2 M 13 t (nI 1)) (kd := 5) (at' := t) (ca := -1) I0.nt (by decide) (by omega) (by rw [e38]; omega)
  rw [e38] at NF
  have hrs : RsM n F (up2 M 13 t (nI 1)) (lmE M t) t lmR := by
    refine Or.inr (Or.inr (Or.inr ⟨_, 5, -1, [], NF, ?_, ?_, by decide, by decide, Or.inl rfl, fun o q => by cases q⟩))
    · unfold lmE; rw [hF0]
    · unfold lmR; rw [sup0, show (-1 + nI 1 : Int32) = 0 by decide +kernel]; rfl
  obtain ⟨z0, z1, z2, z3, z4, z5⟩ := res_sim R1 I0 (by decide) h1t ht ho1 hrs (Or.inr rfl) (by rw [l0]; simp)
  have I2 := AskR.inv (Or.inr (Or.inr z2)) I0 h1t ht ho1
  have e8t : nN (lmE M t) 8 t = 2 := by
    have I1 := NF.inv I0 (by decide) (by decide) (Or.inl rfl) (fun o q => by cases q)
    have w := wf_E (t := t) (v := F) I1 (by decide) (by decide) h1t ht (by rw [nN_e (NF.2.2.2.2.2.2.2.2.2.2 8 rfl)]; exact ho1) (by omega)
    have e : lmE M t = wfM (newFM (up2 M 13 t (nI 1)) F (nI 5) (nI t) (-1)) t (nI F) := by unfold lmE; rw [hF0]
    rw [e, w.1.1.1, vu_s]
  rw [l0, if_neg (by omega), List.append_nil] at z4
  have e10 := z2.e10
  have e16 := z2.e16
  rw [show nN (up2 M 13 t (nI 1)) 16 0 = nN M 16 0 by rw [nN_f (by decide)]] at e16 e10
  have m13 : nN (lmE M t) 13 = va_up (nN M 13) t 1 := by rw [nN_e e10.2.2.1, nN_sn (by decide)]
  have D2 : DR (nN M 16 0) (nteK (resK (addK K 13 t) t F lmR) t) (lmE M t) := by
    unfold DR
    rw [z4, e16, show nN M 16 0 + 1 - nN M 16 0 = 1 by omega]
    unfold enR
    rw [List.range'_one, List.map_cons, List.map_nil, e10.1, vu_s, List.filter_cons, if_pos, List.filter_nil]
    rw [due_iff e10.2.2.2, m13, vu_s]
    exact Or.inr (by decide)
  have st := z2.st
  have hN2 : Nd n (lmE M t) := by
    intro u u1 u2 u3
    have hu : u ≠ t := fun z => z2.e8 (z ▸ u3)
    rw [(st.2.2.1 u hu).1, nN_f (by decide)] at u3
    rw [m13, vu_n hu, z2.e26 hu, nN_f (by decide)]
    exact hN u u1 u2 u3
  rw [lm_eq]
  have XA : FX wn (addK K 13 t) F := hX.ot (Fx.ls (a := 13) (by decide) (add_e 13 t))
  refine ⟨(XA.res (by omega) lmR).ot (Fx.nte (fun hw => ?_)), _, nN M 16 0, z3, I2, hN2, D2, by rw [e16]; omega⟩
  have eW : isWK (resK (addK K 13 t) t F lmR) t = isWK (addK K 13 t) t := by unfold isWK; rw [res_o (by decide) (by decide) (by decide) (by decide) (by decide)]
  have e31 : nN (resK (addK K 13 t) t F lmR) 31 t = nN (addK K 13 t) 31 t := by unfold nN; rw [res_o (by decide) (by decide) (by decide) (by decide) (by decide)]
  rw [eW] at hw
  rw [e31]
  exact (R1.hd I0 h1t ht hw).2
theorem Rel.bso (hR : Rel n k F K L M) (hI : Inv n k w x y M) (h1t : 1 ≤ t) (ht : t ≤ n) (h9 : 9 ≤ nN M 2 t) : ∃ v, v ≤ 100000 ∧ bsO K t = nI v := by
  obtain ⟨a1, a2, a3, a4, a5, a6, a7⟩ := hI.a
  have h18 := (hI.s.2 t h1t ht).2.2.2.2.2.1 h9
  refine ⟨nN M 0 0 + nN M 18 t - nN M 18 t / 2, by omega, ?_⟩
  unfold bsO
  rw [hR.nt 2 0 rfl, hR.nt 23 t rfl, hR.a.2.2.1, ((hR.s t h1t ht).2.2.2.2.2.2 h9).1, pk_div (by omega) (by decide) (by decide), nI_add, pk_sub (by omega)]
theorem Rel.tko (hR : Rel n k F K L M) (hI : Inv n k w x y M) (h1t : 1 ≤ t) (ht : t ≤ n) (h9 : 9 ≤ nN M 2 t) : ∃ v, v ≤ 100000 ∧ tkO K t = nI v := by
  obtain ⟨a1, a2, a3, a4, a5, a6, a7⟩ := hI.a
  have h18 := (hI.s.2 t h1t ht).2.2.2.2.2.1 h9
  unfold tkO
  rw [hR.nt 2 0 rfl, hR.nt 23 t rfl, hR.a.2.2.1, ((hR.s t h1t ht).2.2.2.2.2.2 h9).1]
  split
  · rw [pk_div (by omega) (by decide) (by decide), nI_add]; exact ⟨_, by omega, rfl⟩
  · rw [nI_add]; exact ⟨_, by omega, rfl⟩
theorem Rel.pz (hR : Rel n k F K L M) (hI : Inv n k w x y M) (h1t : 1 ≤ t) (ht : t ≤ n) (hw : isWK K t = true) : pzOk K t ∧ nN K 32 t ≤ nN K 34 t ∧ nN K 32 t ≤ nN K 35 t ∧ ∃ v, v ≤ 100000 ∧ bpO K t (K 2 0) = nI v := by
  have h9 := (isW_iff hR hI h1t ht).mp hw
  obtain ⟨a1, a2, a3, a4, a5, a6, a7⟩ := hI.a
  have s := (hI.s.2 t h1t ht).2.2.2.2.2.2
  have rs := (hR.s t h1t ht).2.2.2.2.2.2 h9
  have e32 := (hR.w t h1t ht h9).1.2.2.2.2
  have d27 := (hI.d t h1t ht).2.1
  refine ⟨⟨hR.nt 32 t rfl, by omega, by omega, by omega⟩, by omega, by omega, nN M 0 0 + nN M 30 t * 2 ^ nN M 27 t, ?_, ?_⟩
  · have p5 : 2 ^ nN M 27 t ≤ 2 ^ 5 := Nat.pow_le_pow_right (by decide) (by omega)
    have := Nat.mul_le_mul (show nN M 30 t ≤ 30 by omega) p5
    omega
  · unfold bpO
    rw [hR.nt 2 0 rfl, hR.nt 33 t rfl, hR.nt 32 t rfl, hR.a.2.2.1, rs.2.1, e32, shl_s _ (by omega) _ (by omega), nI_add]
theorem Rel.pe {r : Rs} (hR : Rel n k F K L M) (hI : Inv n k w x y M) (hx : x ≤ 1) (hy : y ≤ 1) (h1t : 1 ≤ t) (ht : t ≤ n) (ho : nN M 8 t = 0) : PeOk n (resK K t F r) t ∧ isWK (resK K t F r) t = isWK K t ∧ lsL (resK K t F r) 13 = lsL K 13 := by
  have a1 := hI.a.1
  have o : ∀ f j, f < 50 ∨ (58 < f ∧ f < 10000) → f ≠ 16 → f ≠ 17 → f ≠ 18 → resK K t F r f j = K f j := fun f j h1 h2 h3 h4 => res_o h2 h3 h4 (by omega) (by omega)
  have on : ∀ f j, f < 50 ∨ (58 < f ∧ f < 10000) → f ≠ 16 → f ≠ 17 → f ≠ 18 → nN (resK K t F r) f j = nN K f j := fun f j h1 h2 h3 h4 => by unfold nN; rw [o f j h1 h2 h3 h4]
  have C := hR.cf hI hx hy
  have eW : isWK (resK K t F r) t = isWK K t := by unfold isWK; rw [o 11 t (by omega) (by decide) (by decide) (by decide)]
  refine ⟨⟨?_, ?_, hR.la.cg res_ls, fun hw => ?_, ?_⟩, eW, lsL_e (by decide) res_ls⟩
  · have i := (hR.inp hI h1t ht).1
    have e12 := o 12 t (by omega) (by decide) (by decide) (by decide)
    have n12 := on 12 t (by omega) (by decide) (by decide) (by decide)
    refine ⟨by rw [e12, n12]; exact i.1, by rw [n12]; exact i.2.1, fun j hj => ?_⟩
    have eI : iK (resK K t F r) t j = iK K t j := on (1000 + t) j (by omega) (by omega) (by omega) (by omega)
    rw [eI, o (1000 + t) j (by omega) (by omega) (by omega) (by omega)]
    exact i.2.2 j (by rw [n12] at hj; exact hj)
  · have j := hR.jr hI hx hy
    unfold jrOk at *
    rw [on 80 0 (by omega) (by decide) (by decide) (by decide), on 81 0 (by omega) (by decide) (by decide) (by decide), o 80 0 (by omega) (by decide) (by decide) (by decide)]; exact j
  · rw [eW] at hw
    have := hR.hd hI h1t ht hw
    unfold hdOk at *
    rw [on 31 t (by omega) (by decide) (by decide) (by decide), o 31 t (by omega) (by decide) (by decide) (by decide)]; exact this
  · have := hI.e.lt h1t ht ho
    exact ⟨nN M 16 0, by rw [o 3 0 (by omega) (by decide) (by decide) (by decide), hR.nt 3 0 rfl, hR.a.2.2.2.1], by omega⟩
theorem Rel.fn (hR : Rel n k F K L M) (hI : Inv n k w x y M) (hx : x ≤ 1) (hy : y ≤ 1) (h1t : 1 ≤ t) (ht : t ≤ n) (hw : isWK K t = true) : fnOk K n t := by
  have h9 := (isW_iff hR hI h1t ht).mp hw
  have a1 := hI.a.1
  have pz := hR.pz hI h1t ht hw
  have rs := hR.s t h1t ht
  have s := hI.s.2 t h1t ht
  have hb : nN M 44 0 ≤ 64 := hI.hh.1
  refine ⟨⟨hR.nt 70 0 rfl, by rw [hR.l.1]; exact hb⟩, ?_, fun h3 => ⟨(hR.inp hI h1t ht).1, ?_⟩, ⟨hR.nt 13 t rfl, by rw [rs.2.2.2.2.1]; exact s.2.2.2.1.2 (Or.inr h9)⟩, pz.1, pz.2.2.1, fun j hj => hR.nt (3000 + t) j (by unfold exK; exact decide_eq_false (by omega)), hR.hd hI h1t ht hw, hR.jr hI hx hy, hR.la, pz.2.2.2⟩
  · rcases kd_sim hR hI h1t ht h9 with ⟨c1, c2, c3⟩ | ⟨c1, c2, c3⟩
    · exact Or.inl c2
    · exact Or.inr ⟨_, c3, c2⟩
  · have h11 := (hR.e11 hI h1t ht).mp h3
    have h4 : nN M 4 t = 1 := s.1.2.2.2.1 (Or.inr (Or.inr (Or.inl h11)))
    rw [rs.2.2.1]; omega
theorem ik_Tw : TwP n (IKw n k w wn) := fun K F L t ⟨hX, M, d, hR, hI, hN, hD, hd⟩ h13 h1t ht hw h2 h25 => by
  have a1 := hI.a.1
  have bd := hI.bd (by decide) (by decide)
  have hF0 := hR.f.1
  have h9 := (isW_iff hR hI h1t ht).mp hw
  have hov := (tw_iff hR hI h1t ht).mp ⟨hw, h2, h25⟩
  obtain ⟨-, ho, h19, -⟩ := (ovr_iff hI.nt).mp hov
  refine ⟨by omega, fun _ => hR.fn hI (by decide) (by decide) h1t ht hw, fun h28 => ⟨?_, hR.bso hI h1t ht h9⟩, ?_⟩
  · have h24 := (((hR.w t h1t ht h9).2.2.1 ho).2.1 h19).2.mp (fun z => h28 ((hR.nt.z rfl).mpr z))
    have h11 := (((hI.d t h1t ht).2.2.2.2 h9).2 ho).2.2.2.2.1 h19 h24
    have h4 : nN M 4 t = 1 := (hI.s.2 t h1t ht).1.2.2.2.1 (Or.inr (Or.inr (Or.inl h11)))
    rw [(hR.s t h1t ht).2.2.1]; omega
  · rcases tw_cases hR hI hN h1t ht hov with ⟨fr, R2, I2, l2, o2⟩ | ⟨r, M', hr, e1, e2, e3, e4⟩
    · have hn5 : ¬ nI 5 ≤ twK K F t 16 t := fun z => ((R2.k16 I2 h1t ht).1.mp z) o2
      refine ⟨by rw [l2, h13], (isW_iff R2 I2 h1t ht).mpr (by rw [nN_e (fr.1 2 rfl)]; exact h9), fun z => absurd z hn5, fun _ => BS.rest (hX.tw (by omega) (by omega) (hR.hd hI h1t ht hw).2) R2 I2 (fun u a b c => ?_) (by rw [l2, h13])⟩
      rw [nN_e (fr.2.1 8 (by decide))] at c
      rw [nN_e (fr.2.1 13 (by decide)), nN_e (fr.2.1 26 (by decide))]; exact hN u a b c
    · obtain ⟨p1, p2, p3⟩ := hR.pe (r := r) hI (by decide) (by decide) h1t ht ho
      obtain ⟨B2, -, h5⟩ := BS.end ⟨hR, hI, hN, hD, hd⟩ h1t ht ho hr
      rw [e1, e2, e3]
      exact ⟨by rw [p3, h13], by rw [p2]; exact hw, fun _ => ⟨p1, BS.fx ⟨hR, hI, hN, hD, hd⟩ hX h1t ht, _, d, B2⟩, fun z => absurd h5 z⟩
theorem Rel.jrr (hR : Rel n k F K L M) (hI : Inv n k w x y M) (hx : x ≤ 1) (hy : y ≤ 1) (u : Nat) : jrOk (rtR K u) := by
  have bd := hI.bd hx hy
  have hj := hR.j.1
  have e := jrn_E (K := K) (v := nN K 2 0) (s := nN K 10 u) (ev := 6) (hR.jr hI hx hy) (by omega) hR.nt (nN_lt _ _ _) (nN_lt _ _ _) (by decide)
  unfold rtR
  rw [hR.nt 2 0 rfl, hR.nt 10 u rfl]
  obtain ⟨⟨j1, j2, j3, j4, j5, j6⟩, N⟩ := e
  exact ⟨N 80 0 rfl, by omega, by omega, j5, j6⟩
theorem ik_Tc (hk : k ≤ 12) : TcP n k (IKw n k w wn) := by
  refine ⟨hk, fun K F L ⟨hX, M, d, hR, hI, hN, hD, hd⟩ => ⟨by rw [hR.nt 1 0 rfl, hR.a.2.1], fun c h13 h1c hck => ?_⟩⟩
  have a1 := hI.a.1
  have bd := hI.bd (by decide) (by decide)
  have hF0 := hR.f.1
  have rok : rtOk K n F c := by
    refine ⟨hR.la, hR.jr hI (by decide) (by decide), ⟨(hR.la 0 (by decide)).1, fun u hu => ?_⟩, by omega, fun u hu => ?_, fun u hu => ?_⟩
    · have q := (hR.p.2.1 u).mp hu
      exact ⟨(isW_iff hR hI q.1.1 q.1.2).mpr q.2.1, by rw [hR.nt 10 u rfl, (hR.s u q.1.1 q.1.2).1]⟩
    · rw [(hR.p.1 c h1c (by omega)).1] at hu
      have pp := (hI.p c (by omega)).2.2 u hu
      refine ⟨(isW_iff hR hI pp.1 pp.2.1).mpr pp.2.2.1, fun h3 => ⟨(hR.inp hI pp.1 pp.2.1).1, ?_, hR.bso hI pp.1 pp.2.1 pp.2.2.1⟩⟩
      have k3 := (hR.nt.eq rfl (by decide)).mp h3
      rw [(hR.d u pp.1 pp.2.1).1] at k3
      unfold stt at k3
      rw [if_pos pp.2.2.2.1, if_neg (by omega)] at k3
      have h11 := (((hI.d u pp.1 pp.2.1).2.2.2.2 pp.2.2.1).2 pp.2.2.2.1).2.2.1 k3
      rw [(hR.s u pp.1 pp.2.1).2.2.1]
      exact (hI.s.2 u pp.1 pp.2.1).1.2.2.2.1 (Or.inr (Or.inr (Or.inl h11)))
    · have q := (hR.p.2.1 u).mp hu
      exact hR.tko hI q.1.1 q.1.2 q.2.1
  refine ⟨rok, hR.jrr hI (by decide) (by decide) _, ?_⟩
  rcases rt_cases hR hI h13 h1c hck with ⟨e0, M', eM, fr, R2, I2, l2⟩ | ⟨Y, r, M1, M', eE, hY, ho, fr, R1, I1, I2, l1, hr, eK, eF, eL, eR, eM⟩
  · refine ⟨by rw [l2, h13], fun _ => BS.rest (hX.rt (by omega) (by omega)) R2 I2 (fun u a b c => ?_) (by rw [l2, h13]), fun z => absurd e0 z⟩
    rw [nN_e (fr.2.1 8 (by decide))] at c
    rw [nN_e (fr.2.1 13 (by decide)), nN_e (fr.2.1 26 (by decide))]; exact hN u a b c
  · have ho1 : nN M1 8 Y = 0 := by rw [nN_e (fr.2.1 8 (by decide))]; exact ho
    have N1 : Nd n M1 := fun u a b z => by
      rw [nN_e (fr.2.1 8 (by decide))] at z
      rw [nN_e (fr.2.1 13 (by decide)), nN_e (fr.2.1 26 (by decide))]; exact hN u a b z
    obtain ⟨p1, p2, p3⟩ := R1.pe (r := r) I1 (by decide) (by decide) hY.1 hY.2 ho1
    have h13' : lsL (rtR K Y) 13 = [] := by rw [l1, h13]
    obtain ⟨z0, z1, z2, z3, z4, z5⟩ := res_sim R1 I1 (by decide) hY.1 hY.2 ho1 hr (Or.inl (by rw [h13']; simp)) (by rw [h13']; simp)
    have hnd := (N1 Y hY.1 hY.2 ho1).1
    have hdue : dueB M' Y = true ↔ nN M' 8 Y = 3 := by
      rw [due_iff z2.e10.2.2.2, nN_e z2.e10.2.2.1, hnd]
      exact ⟨fun z => z.elim id (fun z => absurd rfl z), Or.inl⟩
    have D2 : DR (nN M1 16 0) (nteK (resK (rtR K Y) Y F r) Y) M' := (DR.nil h13').end I1 (Nat.le_refl _) z2 ho1 (by
      rw [z4]
      by_cases c : nN M' 8 Y = 3
      · rw [if_pos c, if_pos (hdue.mpr c)]
      · rw [if_neg c, if_neg (fun z => c (hdue.mp z))])
    have XR : FX wn (rtR K Y) F := hX.ot Fx.jr
    rw [eE, eK, eF, eL]
    exact ⟨by rw [p3, h13'], fun z => by omega, fun _ => ⟨hY, p1, (XR.res (by omega) r).ot (Fx.nte (fun z => (p1.2.2.2.1 z).2)), M', nN M1 16 0, z3, I2, N1.end z2, D2, by rw [z2.e16]; omega⟩⟩
def IK (n k wn : Nat) (K : MS) (F : Nat) (L : KL) : Prop := ∃ w, IKw n k w wn K F L
theorem ik_id (hk : k ≤ 12) : ∀ F L, idOk n k (fun K => IK n k wn K F L) := fun F L => by
  refine ⟨hk, fun K ⟨w, hX, M, d, hR, hI, hN, hD, hd⟩ => ⟨by rw [hR.nt 1 0 rfl, hR.a.2.1], by have := hI.a.1; omega, fun c h1 h2 => ⟨(hR.la c (by omega)).1, fun u hu => ?_, fun v => ?_⟩⟩⟩
  · rw [(hR.p.1 c h1 h2).1] at hu
    have pp := (hI.p c (by omega)).2.2 u hu
    exact (isW_iff hR hI pp.1 pp.2.1).mpr pp.2.2.1
  · have r := hR.ck (K' := up2 K 62 c v) (M' := up2 M 49 c v) hI.a.1 (fun f _ z => up2_f z) (fun f _ z => up2_f z) (fun c' z1 z2 => by
      have pc := hR.p.2.2 c' z1 z2
      rw [up2_f (f := 61) (by decide), up2_f (f := 48) (by decide)]
      refine ⟨pc.1, ?_⟩
      by_cases cc : c' = c
      · subst cc; rw [up2_s, up2_s]
      · rw [up2_n (by omega), up2_n (by omega)]; exact pc.2)
    refine ⟨w, hX.ot (Fx.up (by decide)), up2 M 49 c v, d, r.1, hI.cg (hI.nt.upx rfl) (fun f hf => up2_f (fne hf rfl)), fun u a b z => ?_, hD.same (r.2 13 (by decide)) (up2_f (by decide)) (up2_f (by decide)) (up2_f (by decide)) (up2_f (by decide)), by rw [nN_f (by decide)]; exact hd⟩
    rw [nN_f (by decide)] at z
    rw [nN_f (by decide), nN_f (by decide)]; exact hN u a b z
theorem ik_ck : ∀ K F L, IK n k wn K F L → ∃ w, K 2 0 = nI w ∧ w ≤ 10000 ∧ (w < 10000 → IK n k wn (up2 K 2 0 (nI (w + 1))) F L) := fun K F L ⟨w, hX, M, d, hR, hI, hN, hD, hd⟩ => by
  obtain ⟨a1, a2, a3, a4, a5, a6, a7⟩ := hI.a
  refine ⟨w, by rw [hR.nt 2 0 rfl, hR.a.2.2.1, a7], a4, fun hw => ⟨w + 1, hX.ot (Fx.up (by decide)), up2 M 0 0 (nI (w + 1)), d, hR.clk a1 (by omega), hI.clk hw, fun u a b z => ?_, hD.same (lsL_up (by decide) (by omega)) (up2_f (by decide)) (up2_f (by decide)) (up2_f (by decide)) (up2_f (by decide)), by rw [nN_f (by decide)]; exact hd⟩⟩
  rw [nN_f (by decide)] at z
  rw [nN_f (by decide), nN_f (by decide)]; exact hN u a b z
theorem ik_Rn (hk : k ≤ 12) : RnK n k (IK n k wn) := by
  refine ⟨⟨fun L => ⟨fun F => ⟨fun K ⟨w, h⟩ => ((ik_En (w := w)).1 L).1 F |>.1 K h, fun K s j ⟨w, h⟩ a b c d => ?_⟩, fun K F t ⟨w, h⟩ a b => ⟨w, ((ik_En (w := w)).1 L).2.1 K F t h a b⟩, fun K F t ⟨w, h⟩ => ((ik_En (w := w)).1 L).2.2 K F t h⟩, fun K F L ⟨w, h⟩ => ⟨w, (ik_En (w := w)).2.1 K F L h⟩, fun K F L t ⟨w, h⟩ a b c => ⟨w, (ik_En (w := w)).2.2 K F L t h a b c⟩⟩, fun K F L t ⟨w, h⟩ a b c d => ⟨w, ik_Ep K F L t h a b c d⟩, fun K F L t ⟨w, h⟩ a b c d e => ?_, fun K F L t ⟨w, h⟩ a b c d e f => ?_, ⟨hk, fun K F L ⟨w, h⟩ => ?_⟩, ik_id hk, ik_ck⟩
  · have r := (((ik_En (w := w)).1 L).1 F).2 K s j h a b c d
    exact ⟨⟨w, r.1⟩, r.2⟩
  · have r := ik_Lm K F L t h a b c d e
    exact ⟨r.1, w, r.2⟩
  · obtain ⟨r1, r2, r3, r4, r5, r6, r7⟩ := ik_Tw K F L t h a b c d e f
    exact ⟨r1, r2, r3, r4, r5, fun z => ⟨(r6 z).1, w, (r6 z).2⟩, fun z => ⟨w, r7 z⟩⟩
  · obtain ⟨r1, r2⟩ := (ik_Tc (w := w) hk).2 K F L h
    refine ⟨r1, fun c a b e => ?_⟩
    obtain ⟨s1, s2, s3, s4, s5⟩ := r2 c a b e
    exact ⟨s1, s2, s3, fun z => ⟨w, s4 z⟩, fun z => ⟨(s5 z).1, (s5 z).2.1, w, (s5 z).2.2⟩⟩
theorem ik_hck (hk : k ≤ 12) : ∀ S v, JS (IK n k wn) S → S.1 2 0 = nI v → (mnS n S v).1 2 0 = nI v ∧ (lpF (tcS n) k 1 S).1 2 0 = nI v := by
  rintro S v ⟨⟨w, hI⟩, h13⟩ hv
  have key : ∀ S : S3, JS (IKw n k w wn) S → S.1 2 0 = nI w := fun S ⟨⟨_, M, d, hR, hI, _⟩, _⟩ => by rw [hR.nt 2 0 rfl, hR.a.2.2.1, hI.a.2.2.2.2.2.2]
  have e : nI w = nI v := (key S ⟨hI, h13⟩).symm.trans hv
  have J0 : JS (IKw n k w wn) S := ⟨hI, h13⟩
  rw [← e]
  refine ⟨key _ ?_, key _ ?_⟩
  · unfold mnS
    split
    · have a1 := (lp_ok (n := n) (J := JS (IKw n k w wn)) (co_st ik_En) n 1 S J0 (by omega) (by omega)).1
      have b1 := (lp_ok (n := n) (J := JS (IKw n k w wn)) (tw_st ik_En ik_Tw) n 1 _ a1 (by omega) (by omega)).1
      have c1 := (lp_ok (n := n) (J := JS (IKw n k w wn)) (lm_st ik_En ik_Lm) n 1 _ b1 (by omega) (by omega)).1
      exact (lp_ok (n := n) (J := JS (IKw n k w wn)) (ep_st ik_En ik_Ep) n 1 _ c1 (by omega) (by omega)).1
    · exact J0
  · exact (lp_ok (n := k) (J := JS (IKw n k w wn)) (tc_st ik_En (ik_Tc hk)) k 1 S J0 (by omega) (by omega)).1
theorem Rst.js (hS : Rst n k w F K L M) (hX : FX wn K F) : JS (IK n k wn) (K, F, L) := ⟨⟨w, BS.rest hX hS.1 hS.2.1 hS.2.2.1 hS.2.2.2.1⟩, hS.2.2.2.1⟩
end CPKS
