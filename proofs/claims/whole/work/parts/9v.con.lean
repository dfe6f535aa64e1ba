/-! what an end brings about, and dues, on both sides -/
section CONS
variable {n k F w x y : Nat} {K K1 K' : MS} {L L' : KL} {M M1 M' : MS} {t h : Nat}
theorem EndR.st (h : EndR M M' t) : (∀ f, mS f = true → M' f = M f) ∧ M' 19 = M 19 ∧ (∀ u, u ≠ t → nN M' 8 u = nN M 8 u ∧ nN M' 12 u = nN M 12 u) ∧ (∀ g, g < nN M 38 0 → nN M' 33 g = nN M 33 g) ∧ nN M 38 0 ≤ nN M' 38 0 ∧ (∀ p, p ≠ nN M 16 0 + 1 → nN M' 15 p = nN M 15 p) := by
  have ms : ∀ f, mS f = true → f = 2 ∨ f = 3 ∨ f = 4 ∨ f = 5 ∨ f = 6 ∨ f = 7 ∨ f = 18 ∨ f = 29 ∨ f = 30 ∨ f = 32 := fun f hf => by have := of_decide_eq_true hf; omega
  rcases h with ⟨h, hh, E, hf⟩ | ⟨M1, kd, ca, l, E, hk, hl, hca, hm, E2, e12⟩
  · have ef := E.2.2.2.2.2.2
    refine ⟨fun f hf => ef f ?_, ef 19 rfl, fun u hu => ⟨by rw [E.1.1, vu_n hu], by rw [nN, (E.2.2.2.2.1 u hu).2]; rfl⟩, fun g _ => by rw [nN_e (ef 33 rfl)], by rw [nN_e (ef 38 rfl)]; exact Nat.le_refl _, fun p hp => by rw [E.1.2.2.2.1, vu_n hp]⟩
    rcases ms f hf with rfl | rfl | rfl | rfl | rfl | rfl | rfl | rfl | rfl | rfl <;> rfl
  · have ef := E.2.2.2.2.2.2.2.2.2.2
    have ef2 := E2.2.2.2.2.2.2
    refine ⟨fun f hf => (ef2 f ?_).trans (ef f ?_), (ef2 19 rfl).trans (ef 19 rfl), fun u hu => ⟨by rw [E2.1.1, vu_n hu, nN_e (ef 8 rfl)], by rw [nN, (E2.2.2.2.2.1 u hu).2, ef 12 rfl]; rfl⟩, fun g hg => by rw [nN_e (ef2 33 rfl), E.1, vu_n (by omega)], by rw [nN_e (ef2 38 rfl), E.2.2.2.2.2.1]; omega, fun p hp => by rw [E2.1.2.2.2.1, nN_e (ef 15 rfl), nN_e (ef 16 rfl), vu_n hp]⟩
    · rcases ms f hf with rfl | rfl | rfl | rfl | rfl | rfl | rfl | rfl | rfl | rfl <;> rfl
    · rcases ms f hf with rfl | rfl | rfl | rfl | rfl | rfl | rfl | rfl | rfl | rfl <;> rfl
/-- the state in the midst of a walk; d: the place from which dues are owed -/
def BS (n k w d F : Nat) (K : MS) (L : KL) (M : MS) : Prop := Rel n k F K L M ∧ Inv n k w 0 0 M ∧ Nd n M ∧ DR d K M ∧ d ≤ nN M 16 0
theorem DR.m13 {d : Nat} (hD : DR d K M) (hI : Inv n k w x y M) (hd : d ≤ nN M 16 0) : ∀ u ∈ lsL K 13, nN M 8 u ≠ 0 := by
  intro u hu
  rw [hD, List.mem_filter] at hu
  exact ((enR_mem hI.e (by omega) (by omega)).mp hu.1).1.2.2
/-- what stays behind an end -/
def Ext (M M' : MS) : Prop := (∀ p, 1 ≤ p → p ≤ nN M 16 0 → nN M' 15 p = nN M 15 p) ∧ (∀ s, nN M 8 s ≠ 0 → nN M' 8 s = nN M 8 s) ∧ M' 13 = M 13 ∧ nN M 16 0 ≤ nN M' 16 0 ∧ M' 3 = M 3 ∧ M' 4 = M 4 ∧ M' 17 = M 17
theorem Ext.rf : Ext M M := ⟨fun _ _ _ => rfl, fun _ _ => rfl, rfl, Nat.le_refl _, rfl, rfl, rfl⟩
theorem Ext.tr (h1 : Ext M M1) (h2 : Ext M1 M') : Ext M M' :=
  ⟨fun p a b => (h2.1 p a (by have := h1.2.2.2.1; omega)).trans (h1.1 p a b), fun s q => (h2.2.1 s (by rw [h1.2.1 s q]; exact q)).trans (h1.2.1 s q), h2.2.2.1.trans h1.2.2.1, Nat.le_trans h1.2.2.2.1 h2.2.2.2.1, h2.2.2.2.2.1.trans h1.2.2.2.2.1, h2.2.2.2.2.2.1.trans h1.2.2.2.2.2.1, h2.2.2.2.2.2.2.trans h1.2.2.2.2.2.2⟩
theorem EndR.ext (h : EndR M M' t) (ho : nN M 8 t = 0) : Ext M M' := by
  have st := h.st
  have f := h.fr
  exact ⟨fun p a b => st.2.2.2.2.2 p (by omega), fun s q => (st.2.2.1 s (fun z => q (z ▸ ho))).1, h.e10.2.2.1, f.2.2.2.2, f.1, f.2.1, f.2.2.1⟩
theorem AskR.ext (h : AskR M M' t) (ho : nN M 8 t = 0) : Ext M M' := by
  rcases h with rfl | ⟨_, _, rfl⟩ | h
  · exact Ext.rf
  · have e : ∀ f, f ≠ 19 → f ≠ 20 → up2 (up2 M 19 t (nI 1)) 20 t (M 0 0) f = M f := fun f a b => by rw [up2_f b, up2_f a]
    exact ⟨fun p _ _ => by rw [nN_e (e 15 (by decide) (by decide))], fun s _ => by rw [nN_e (e 8 (by decide) (by decide))], e 13 (by decide) (by decide), by rw [nN_e (e 16 (by decide) (by decide))]; exact Nat.le_refl _, e 3 (by decide) (by decide), e 4 (by decide) (by decide), e 17 (by decide) (by decide)⟩
  · exact EndR.ext h ho
theorem st_ext (hI : Inv n k w 0 0 M) (h1t : 1 ≤ t) (ht : t ≤ n) : Ext M (stM M t) := by
  unfold stM
  split
  · rename_i c
    have ho := (hI.nt.z rfl).mp c.2
    exact (ask_R hI h1t ht ho c.1).ext ho
  · exact Ext.rf
/-- quietness of others, behind a stage was asked -/
theorem Qu.ask {F' : Nat} {u : Nat} (hR : Rel n k F K L M) (hI : Inv n k w 0 0 M) (hR' : Rel n k F' K' L M') (hI' : Inv n k w 0 0 M') (hA : AskR M M' t) (h1 : 1 ≤ u) (h2 : u ≤ n) (hq : Qu K u) (hne : u ≠ t) (hni : t ∉ inL M u) : Qu K' u := by
  rcases hA with e | ⟨_, _, e⟩ | h
  · subst e
    exact hq.keep hR hI hR' hI' h1 h2 (fun _ _ => rfl) id (fun _ z => z) (fun _ _ => rfl) (fun _ _ _ => rfl) (fun _ _ => rfl) (Nat.le_refl _)
  · have o : ∀ f, f ≠ 19 → f ≠ 20 → M' f = M f := fun f a b => by rw [e, up2_f b, up2_f a]
    have m19 : nN M' 19 u = nN M 19 u := by rw [e, nN_f (by decide), nN_sn (by decide), vu_n hne]
    exact hq.keep hR hI hR' hI' h1 h2 (fun f hf => by have := of_decide_eq_true hf; exact o f (by omega) (by omega)) (fun z => by rw [nN_e (o 8 (by decide) (by decide))] at z; exact z) (fun _ z => by rw [m19] at z; exact z) (fun s _ => by rw [nN_e (o 8 (by decide) (by decide))]) (fun s _ _ => by rw [nN_e (o 12 (by decide) (by decide))]) (fun g _ => by rw [nN_e (o 33 (by decide) (by decide))]) (by rw [nN_e (o 38 (by decide) (by decide))]; exact Nat.le_refl _)
  · have st := EndR.st h
    exact hq.keep hR hI hR' hI' h1 h2 st.1 (fun z => by rw [(st.2.2.1 u hne).1] at z; exact z) (fun _ z => by rw [nN_e st.2.1] at z; exact z) (fun s hs => (st.2.2.1 s (fun z => hni (z ▸ hs))).1) (fun s hs _ => (st.2.2.1 s (fun z => hni (z ▸ hs))).2) st.2.2.2.1 st.2.2.2.2.1
theorem cn_sim {d : Nat} : ∀ (q t : Nat) (K : MS) (F : Nat) (M : MS), BS n k w d F K L M → 1 ≤ t → t + q = n + 1 → (∀ u, 1 ≤ u → u < t → Qu K u) → BS n k w d (cnF q t (K, F)).2 (cnF q t (K, F)).1 L (behF q t M) ∧ (∀ u, 1 ≤ u → u ≤ n → Qu (cnF q t (K, F)).1 u) ∧ Ext M (behF q t M)
  | 0, t, K, F, M, hB, _, hq, hQ => ⟨hB, fun u h1 h2 => hQ u h1 (by omega), Ext.rf⟩
  | q + 1, t, K, F, M, ⟨hR, hI, hN, hD, hd⟩, h1t, hq, hQ => by
    have ht : t ≤ n := by omega
    obtain ⟨s1, s2, s3, s4, s5, s6, s7⟩ := stp_sim hR hI hN hD hd (hD.m13 hI hd) h1t ht
    have hext := st_ext hI h1t ht (M := M)
    have hA : AskR M (stM M t) t := s5.elim (fun z => Or.inl z.1) id
    have r := cn_sim (d := d) q (t + 1) (stpS (K, F) t).1 (stpS (K, F) t).2 (stM M t) ⟨s1, s2, s3, s4, by omega⟩ (by omega) (by omega) (fun u h1 h2 => by
      by_cases hu : u = t
      · subst hu; exact st_qu hR hI h1t ht s1 s2
      · exact (hQ u h1 (by omega)).ask hR hI s1 s2 hA h1 (by omega) hu (fun z => by have := inL_b hI.s h1 (show u ≤ n by omega) z; omega))
    exact ⟨r.1, r.2.1, hext.tr r.2.2⟩
theorem beh_id : ∀ (q t : Nat), 1 ≤ t → t + q ≤ n + 1 → (∀ u, 1 ≤ u → u ≤ n → stM M u = M) → behF q t M = M
  | 0, _, _, _, _ => rfl
  | q + 1, t, h1, h2, h => by
    have e : (if someB M t = true ∧ M 8 t = 0 then askedM M t else M) = M := h t h1 (by omega)
    rw [behF, e]; exact beh_id q (t + 1) (by omega) (by omega) h
theorem srv_0 (hI : Inv n k w x y M) {u v : Nat} (hs : srvN M u = 0) (h1 : 1 ≤ v) (h2 : v ≤ n) (ho : nN M 8 v = 0) : u ∉ inL M v := fun z => by
  have := srv_pos hI h1 h2 ho z; omega
/-- called off, as it serves nothing -/
theorem off_sim {d : Nat} {u : Nat} (hB : BS n k w d F K L M) (hQ : ∀ v, 1 ≤ v → v ≤ n → Qu K v) (h1 : 1 ≤ u) (h2 : u ≤ n) (ho : nN M 8 u = 0) (hs : srvN M u = 0) : BS n k w d F (nteK (offK K u) u) L (markM M u (nI 3)) ∧ (∀ v, 1 ≤ v → v ≤ n → Qu (nteK (offK K u) u) v) ∧ Ext M (markM M u (nI 3)) ∧ behM n (markM M u (nI 3)) u = markM M u (nI 3) := by
  obtain ⟨hR, hI, hN, hD, hd⟩ := hB
  have a1 := hI.a.1
  have h13 : u ∉ lsL K 13 := fun z => hD.m13 hI hd u z ho
  obtain ⟨z0, z1, z2, z3, z4, z5⟩ := res_sim (r := rsO) hR hI (by decide) h1 h2 ho (Or.inr (Or.inr (Or.inl ⟨rfl, rfl⟩))) (Or.inl h13) (by have := hR.la.l13; omega)
  have er : resK K u F rsO = offK K u := rfl
  have eF : resF F rsO = F := rfl
  rw [er] at z3 z4 z5
  rw [eF] at z3
  have I2 := AskR.inv (Or.inr (Or.inr z2)) hI h1 h2 ho
  have hdue : dueB (markM M u (nI 3)) u = true ↔ nN (markM M u (nI 3)) 8 u = 3 := by
    rw [due_iff z2.e10.2.2.2, nN_e z2.e10.2.2.1, (hN u h1 h2 ho).1]
    exact ⟨fun z => z.elim id (fun z => absurd rfl z), Or.inl⟩
  have D2 : DR d (nteK (offK K u) u) (markM M u (nI 3)) := hD.end hI hd z2 ho (by
    rw [z4]
    by_cases c : nN (markM M u (nI 3)) 8 u = 3
    · rw [if_pos c, if_pos (hdue.mpr c)]
    · rw [if_neg c, if_neg (fun z => c (hdue.mp z))])
  have Q2 : ∀ v, 1 ≤ v → v ≤ n → Qu (nteK (offK K u) u) v := fun v v1 v2 => by
    by_cases c : nN (markM M u (nI 3)) 8 v = 0
    · have hne : v ≠ u := fun z => by subst z; exact z2.e8 c
      have ho' : nN M 8 v = 0 := by rw [(z2.st.2.2.1 v hne).1] at c; exact c
      exact (hQ v v1 v2).ask hR hI z3 I2 (Or.inr (Or.inr z2)) v1 v2 hne (srv_0 hI hs v1 v2 ho')
    · exact Qu.ended z3 I2 v1 v2 c
  refine ⟨⟨z3, I2, hN.end z2, D2, by rw [z2.e16]; omega⟩, Q2, z2.ext ho, ?_⟩
  exact beh_id (n := n) _ _ (by omega) (by omega) (fun v v1 v2 => (qu_st z3 I2 v1 v2 (Q2 v v1 v2)).1)
theorem duI_sim {d s : Nat} (hs : 1 ≤ s ∧ s ≤ n) : ∀ (q j : Nat) (K M : MS), BS n k w d F K L M → (∀ v, 1 ≤ v → v ≤ n → Qu K v) → j + q ≤ nN M 4 s → BS n k w d F (duI s q j K) L (dueI n s q j M) ∧ (∀ v, 1 ≤ v → v ≤ n → Qu (duI s q j K) v) ∧ Ext M (dueI n s q j M)
  | 0, _, _, _, hB, hQ, _ => ⟨hB, hQ, Ext.rf⟩
  | q + 1, j, K, M, hB, hQ, hj => by
    have hR := hB.1
    have hI := hB.2.1
    have ei := iK_iN hR hs.1 hs.2 (j := j) (by omega)
    have hm : iN M s j ∈ inL M s := inL_mem.mpr ⟨j, by omega, rfl⟩
    have b := inL_b hI.s hs.1 hs.2 hm
    have b2 : iN M s j ≤ n := by omega
    have c1 : (¬ nI 5 ≤ K 16 (iN M s j) ∧ K 22 (iN M s j) = 0) ↔ (M 8 (iN M s j) = 0 ∧ srvN M (iN M s j) = 0) := by
      rw [(hR.k16 hI b.1 b2).1, hI.nt.z rfl, hR.nt.z rfl, (hR.d _ b.1 b2).2.2.2.2.2.2]
      exact ⟨fun z => ⟨Classical.byContradiction (fun c => z.1 c), z.2⟩, fun z => ⟨fun c => c z.1, z.2⟩⟩
    rw [duI, dueI, ei]
    by_cases hc : M 8 (iN M s j) = 0 ∧ srvN M (iN M s j) = 0
    · rw [if_pos hc, if_pos (c1.mpr hc)]
      obtain ⟨o1, o2, o3, o4⟩ := off_sim hB hQ b.1 b2 ((hI.nt.z rfl).mp hc.1) hc.2
      rw [o4]
      have r := duI_sim hs q (j + 1) _ _ o1 o2 (by rw [nN_e o3.2.2.2.2.2.1]; omega)
      exact ⟨r.1, r.2.1, o3.tr r.2.2⟩
    · rw [if_neg hc, if_neg (fun z => hc (c1.mp z))]
      exact duI_sim hs q (j + 1) K M hB hQ (by omega)
theorem enR_ext {p q : Nat} (hx : Ext M M') (hp : 1 ≤ p) (hq : p + q ≤ nN M 16 0 + 1) : enR M' p q = enR M p q := by
  unfold enR
  refine List.map_congr_left (fun i hi => ?_)
  rw [List.mem_range'_1] at hi
  exact hx.1 i (by omega) (by omega)
theorem due_ext (hx : Ext M M') (hI : Inv n k w x y M) (hN' : NT exM M') {s : Nat} (h8 : nN M 8 s ≠ 0) : dueB M' s = dueB M s := by
  have a := due_iff (s := s) hI.nt
  have b := due_iff (s := s) hN'
  rw [hx.2.1 s h8, nN_e hx.2.2.1] at b
  exact Bool.eq_iff_iff.mpr (b.trans a.symm)
theorem fil_ext {p q : Nat} (hx : Ext M M') (hI : Inv n k w x y M) (hN' : NT exM M') (hp : 1 ≤ p) (hq : p + q ≤ nN M 16 0 + 1) : (enR M' p q).filter (dueB M') = (enR M p q).filter (dueB M) := by
  rw [enR_ext hx hp hq]
  refine List.filter_congr (fun s hs => ?_)
  exact due_ext hx hI hN' ((enR_mem hI.e hp hq).mp hs).1.2.2
theorem BS.up17 {d v : Nat} (h : BS n k w d F K L M) (hv : v < 2 ^ 31) : BS n k w d F K L (up2 M 17 0 (nI v)) := by
  obtain ⟨hR, hI, hN, hD, hd⟩ := h
  have o : ∀ f, f ≠ 17 → up2 M 17 0 (nI v) f = M f := fun f q => up2_f q
  obtain ⟨r1, r2, r3, r4, r5, r6, r7, r8, r9, r10, r11, r12⟩ := hR
  refine ⟨⟨r1, r2, r3.cg (fun _ _ => rfl) (fun f hf => o f (by have := of_decide_eq_true hf; omega)), r4.cg hI.a.1 (fun _ _ => rfl) (fun f hf => o f (by have := of_decide_eq_true hf; omega)), r5.cg (fun _ _ => rfl) (fun f hf => o f (by have := of_decide_eq_true hf; omega)), r6.cg hI.a.1 (fun _ _ => rfl) (fun f hf => o f (by have := of_decide_eq_true hf; omega)), r7.cg (fun _ _ => rfl) (fun f hf => o f (by have := of_decide_eq_true hf; omega)), r8.cg (fun _ _ => rfl) (fun _ _ => rfl) (fun f hf => o f (by have := of_decide_eq_true hf; omega)), r9.cg (fun _ _ => rfl) (fun f hf => o f (by have := of_decide_eq_true hf; omega)), r10.cg (fun _ _ => rfl) (fun f hf => o f (by have := of_decide_eq_true hf; omega)), r11.cg (fun f hf => o f (by have := of_decide_eq_true hf; omega)), r12.cg (o 3 (by decide)) (o 4 (by decide))⟩, hI.cg (hI.nt.upn hv) (fun f hf => o f (fne hf rfl)), fun u a b c => ?_, ?_, by rw [nN_f (by decide)]; exact hd⟩
  · rw [nN_f (by decide)] at c; rw [nN_f (by decide), nN_f (by decide)]; exact hN u a b c
  · unfold DR at hD ⊢
    rw [hD, nN_f (by decide)]
    unfold enR dueB
    rw [nN_f (by decide), o 8 (by decide), o 13 (by decide)]
theorem due_sim {d : Nat} : ∀ (q q' j dt : Nat) (K M : MS), BS n k w d F K L M → (∀ v, 1 ≤ v → v ≤ n → Qu K v) → nN M 17 0 = dt → d ≤ dt → dt ≤ nN M 16 0 → j = ((enR M (d + 1) (dt - d)).filter (dueB M)).length → 201 ≤ dt + q → 200 ≤ j + q' → BS n k w d F (duF q' j K) L (dueF n q M) ∧ (∀ v, 1 ≤ v → v ≤ n → Qu (duF q' j K) v) ∧ nN (dueF n q M) 17 0 = nN (dueF n q M) 16 0
  | 0, q', j, dt, K, M, hB, _, _, _, h1, _, h2, _ => by
    have := hB.2.1.e.le
    have := hB.2.1.a.1
    omega
  | q + 1, q', j, dt, K, M, hB, hQ, e17, hd1, hd2, hj, hf, hf2 => by
    have hR := hB.1
    have hI := hB.2.1
    have hD := hB.2.2.2.1
    have a1 := hI.a.1
    have el := hI.e.le
    have l13 := hR.la.l13
    rw [dueF, e17]
    by_cases hlt : dt < nN M 16 0
    · rw [if_pos hlt]
      have hp := hI.e.1 (dt + 1) (by omega) (by omega)
      have B2 := hB.up17 (v := dt + 1) (by omega)
      have split : enR M (d + 1) (nN M 16 0 - d) = enR M (d + 1) (dt - d) ++ nN M 15 (dt + 1) :: enR M (dt + 2) (nN M 16 0 - dt - 1) := by
        unfold enR
        rw [show nN M 16 0 - d = (dt - d) + (1 + (nN M 16 0 - dt - 1)) by omega, ← List.range'_append_1, List.map_append, show d + 1 + (dt - d) = dt + 1 by omega, Nat.add_comm 1, List.range'_succ, List.map_cons]
      have snoc : enR M (d + 1) (dt + 1 - d) = enR M (d + 1) (dt - d) ++ [nN M 15 (dt + 1)] := by
        unfold enR
        rw [show dt + 1 - d = (dt - d) + 1 by omega, List.range'_concat, List.map_append, show d + 1 + 1 * (dt - d) = dt + 1 by omega]; rfl
      generalize hs : nN M 15 (dt + 1) = s at hp split snoc
      have x2 : Ext M (up2 M 17 0 (nI (dt + 1))) ∨ True := Or.inr trivial
      have f2 : ∀ p q, (enR (up2 M 17 0 (nI (dt + 1))) p q).filter (dueB (up2 M 17 0 (nI (dt + 1)))) = (enR M p q).filter (dueB M) := fun p q => by
        unfold enR dueB
        rw [nN_f (by decide), up2_f (show 8 ≠ 17 by decide), up2_f (show 13 ≠ 17 by decide)]
      have e16' : nN (up2 M 17 0 (nI (dt + 1))) 16 0 = nN M 16 0 := by rw [nN_f (by decide)]
      have e17' : nN (up2 M 17 0 (nI (dt + 1))) 17 0 = dt + 1 := by rw [nN_sn (by omega), vu_s]
      by_cases hdue : dueB M s = true
      · rw [if_pos hdue]
        have hl : lsL K 13 = (enR M (d + 1) (dt - d)).filter (dueB M) ++ s :: (enR M (dt + 2) (nN M 16 0 - dt - 1)).filter (dueB M) := by
          rw [hD, split, List.filter_append, List.filter_cons, if_pos hdue]
        have hjl : j < (lsL K 13).length := by rw [hl, List.length_append, List.length_cons]; omega
        have hdS : duS K j = s := by
          unfold duS
          rw [hl, hj, List.getElem?_append_right (Nat.le_refl _), Nat.sub_self]; rfl
        obtain ⟨q2, rfl⟩ : ∃ q2, q' = q2 + 1 := ⟨q' - 1, by omega⟩
        rw [duF, if_pos hjl, hdS, (hR.s s hp.1 hp.2.1).2.2.1]
        have ek : kI M s = nN M 4 s := rfl
        rw [ek]
        obtain ⟨r1, r2, r3⟩ := duI_sim (s := s) ⟨hp.1, hp.2.1⟩ (nN M 4 s) 0 K (up2 M 17 0 (nI (dt + 1))) B2 hQ (by rw [nN_f (by decide)]; omega)
        refine due_sim q q2 (j + 1) (dt + 1) _ _ r1 r2 (by rw [nN_e r3.2.2.2.2.2.2]; exact e17') (by omega) (by have := r3.2.2.2.1; rw [e16'] at this; omega) ?_ (by omega) (by omega)
        rw [fil_ext r3 B2.2.1 r1.2.1.nt (by omega) (by rw [e16']; omega), f2, snoc, List.filter_append, List.length_append, List.filter_cons, if_pos hdue, ← hj]; rfl
      · rw [if_neg hdue]
        refine due_sim q q' j (dt + 1) K _ B2 hQ e17' (by omega) (by rw [e16']; omega) ?_ (by omega) hf2
        rw [f2, snoc, List.filter_append, List.length_append, List.filter_cons, if_neg hdue, ← hj]; rfl
    · rw [if_neg hlt]
      have hde : dt = nN M 16 0 := by omega
      have hnl : ¬ j < (lsL K 13).length := by rw [hD, hj, hde]; omega
      have hK : duF q' j K = K := by
        cases q' with
        | zero => rfl
        | succ q' => rw [duF, if_neg hnl]
      rw [hK]
      exact ⟨hB, hQ, by rw [e17]; exact hde⟩
/-- at rest -/
def Rst (n k w F : Nat) (K : MS) (L : KL) (M : MS) : Prop := Rel n k F K L M ∧ Inv n k w 0 0 M ∧ Nd n M ∧ lsL K 13 = [] ∧ nN M 17 0 = nN M 16 0 ∧ ∀ u, 1 ≤ u → u ≤ n → Qu K u
theorem Rel.clr (hR : Rel n k F K L M) (hn : n ≤ 200) : Rel n k F (clrK K 13) L M ∧ lsL (clrK K 13) 13 = [] := by
  have e : ∀ f, f < 63 ∨ (67 < f ∧ f < 4000) ∨ 10000 ≤ f → clrK K 13 f = K f := fun f hf => ls_fe (by decide) hf (clr_e 13)
  have el : ∀ c, c ≤ 12 → lsL (clrK K 13) c = lsL K c := fun c hc => (oth_L (n := n) (i := 0) (by omega) (by decide) (by omega) (clr_e 13)).1
  have h13 := (clr_ok (hR.la 13 (by decide)).1).L (show n ≤ 201 by omega)
  obtain ⟨r1, r2, r3, r4, r5, r6, r7, r8, r9, r10, r11, r12⟩ := hR
  have hf1 : ∀ f, kP f = true → clrK K 13 f = K f := fun f hf => by
    have := of_decide_eq_true hf
    exact e f (by omega)
  exact ⟨⟨r1.ls (by decide) (clr_e 13), r2.clr (by omega) (by decide), r3.cg (fun f hf => e f (by have := of_decide_eq_true hf; omega)) (fun _ _ => rfl), r4.cg hn (fun f hf => e f (by have := of_decide_eq_true hf; omega)) (fun _ _ => rfl), r5.cg (fun f hf => e f (by have := of_decide_eq_true hf; omega)) (fun _ _ => rfl), r6.cg hn (fun f hf => e f (by have := of_decide_eq_true hf; omega)) (fun _ _ => rfl), r7.cg (fun f hf => e f (by have := of_decide_eq_true hf; omega)) (fun _ _ => rfl), r8.cg el hf1 (fun _ _ => rfl), r9.cg (fun f hf => e f (by have := of_decide_eq_true hf; omega)) (fun _ _ => rfl), r10.cg (fun f hf => e f (by have := of_decide_eq_true hf; omega)) (fun _ _ => rfl), r11, r12⟩, h13⟩
theorem Qu.same {u : Nat} (hR : Rel n k F K L M) (hI : Inv n k w 0 0 M) (hR' : Rel n k F K' L M) (h1 : 1 ≤ u) (h2 : u ≤ n) (hq : Qu K u) : Qu K' u :=
  hq.keep hR hI hR' hI h1 h2 (fun _ _ => rfl) id (fun _ z => z) (fun _ _ => rfl) (fun _ _ _ => rfl) (fun _ _ => rfl) (Nat.le_refl _)
/-- what an end brings about -/
theorem con_sim {d i : Nat} (hB : BS n k w d F (nteK K i) L M) (h17 : nN M 17 0 = d) (h1 : 1 ≤ i) (h2 : i ≤ n) (hQ : ∀ u, 1 ≤ u → u ≤ i → Qu (nteK K i) u) : Rst n k w (conS n (K, F) i).2 (conS n (K, F) i).1 L (folM n M i) := by
  obtain ⟨c1, c2, c3⟩ := cn_sim (n - i) (i + 1) _ _ _ hB (by omega) (by omega) (fun u a b => hQ u a (by omega))
  have e17 : nN (behF (n - i) (i + 1) M) 17 0 = d := by rw [nN_e c3.2.2.2.2.2.2]; exact h17
  have a1 := c1.2.1.a.1
  have e16 := c3.2.2.2.1
  obtain ⟨s1, s2, s3⟩ := due_sim 201 200 0 d _ _ c1 c2 e17 (Nat.le_refl _) c1.2.2.2.2 (by rw [Nat.sub_self]; rfl) (by omega) (by omega)
  obtain ⟨r1, r2⟩ := s1.1.clr a1
  have eM : folM n M i = dueF n 201 (behF (n - i) (i + 1) M) := rfl
  rw [eM]
  exact ⟨r1, s1.2.1, s1.2.2.1, r2, s3, fun u a b => (s2 u a b).same s1.1 s1.2.1 r1 a b⟩
end CONS
