/-! a new failure keeps the relation; what a rule answers, on both sides -/
section RNFS
variable {n k F w x y : Nat} {K K1 K' : MS} {L L' : KL} {M M1 M' : MS} {t h : Nat}
theorem nfK_o {f g ns : Nat} {kd at' ca : Int32} {sup : Nat → Int32} (h1 : ¬ (50 ≤ g ∧ g ≤ 58)) (h2 : g ≠ 10000 + f) : newFK K f kd at' ca ns sup g = K g := by
  funext j; unfold newFK; rw [if_neg h2, if_neg (fun q => h1 q.2)]
theorem nfK_r {f ns : Nat} {kd at' ca : Int32} {sup : Nat → Int32} : newFK K f kd at' ca ns sup (10000 + f) = sup := by
  funext j; unfold newFK; rw [if_pos rfl]
theorem nfK_n {f g j ns : Nat} {kd at' ca : Int32} {sup : Nat → Int32} (h1 : g < 10000) (h2 : j ≠ f) : newFK K f kd at' ca ns sup g j = K g j := by
  unfold newFK; rw [if_neg (by omega), if_neg (fun q => h2 q.1)]
theorem nfK_5 {f ns : Nat} {kd at' ca : Int32} {sup : Nat → Int32} : newFK K f kd at' ca ns sup 50 f = kd ∧ newFK K f kd at' ca ns sup 51 f = at' ∧ newFK K f kd at' ca ns sup 52 f = ca ∧ newFK K f kd at' ca ns sup 53 f = nI ns := by
  unfold newFK
  refine ⟨?_, ?_, ?_, ?_⟩
  · rw [if_neg (by omega), if_pos ⟨rfl, by decide, by decide⟩, if_pos rfl]
  · rw [if_neg (by omega), if_pos ⟨rfl, by decide, by decide⟩, if_neg (by decide), if_pos rfl]
  · rw [if_neg (by omega), if_pos ⟨rfl, by decide, by decide⟩, if_neg (by decide), if_neg (by decide), if_pos rfl]
  · rw [if_neg (by omega), if_pos ⟨rfl, by decide, by decide⟩, if_neg (by decide), if_neg (by decide), if_neg (by decide), if_pos rfl]
/-- the suppressed ones, as the class has them -/
def supL (l : List Nat) : Nat → Int32 := fun j => if j < l.length then nI (l[j]?.getD 0 + 1) else 0
theorem Rel.nf {kd : Nat} {ca : Int32} {l : List Nat} (hR : Rel n k F K L M) (hI : Inv n k w x y M) (E : NFE M M1 kd t ca l) (hk : kd ≤ 15) (hl : l.length ≤ 24) (hca : ca = -1 ∨ ∃ h, h < nN M 38 0 ∧ ca = nI h) (hm : ∀ o ∈ l, o < nN M 38 0) (hF : F ≤ 5000) (ht : t ≤ 200) : Rel n k (F + 1) (newFK K (F + 1) (nI kd) (nI t) (ca + nI 1) l.length (supL l)) L M1 := by
  obtain ⟨e33, e34, e35, e36, e37, e38, e40, e39, e39', hN, ef⟩ := E
  have hF0 := hR.f.1
  rw [hF0] at e33 e34 e35 e36 e37 e38 hm hca
  have e : ∀ f, nfF f = false → nN M1 f = nN M f := fun f h => nN_e (ef f h)
  have a1 := hI.a.1
  have hca' : ∃ c, c ≤ F ∧ ca + nI 1 = nI c := by
    rcases hca with q | ⟨h, q1, q2⟩
    · exact ⟨0, Nat.zero_le _, by rw [q]; decide +kernel⟩
    · exact ⟨h + 1, by omega, by rw [q2, nI_add]⟩
  obtain ⟨cc, hcc, ecc⟩ := hca'
  have hsb : ∀ j, j < l.length → l[j]?.getD 0 < F := fun j hj => by rw [List.getElem?_eq_getElem hj, Option.getD_some]; exact hm _ (List.getElem_mem hj)
  rw [ecc]
  generalize hK1 : newFK K (F + 1) (nI kd) (nI t) (nI cc) l.length (supL l) = K1
  have ko : ∀ g, ¬ (50 ≤ g ∧ g ≤ 58) → g ≠ 10000 + (F + 1) → K1 g = K g := fun g q1 q2 => by rw [← hK1]; exact nfK_o q1 q2
  have kn : ∀ g j, g < 10000 → j ≠ F + 1 → K1 g j = K g j := fun g j q1 q2 => by rw [← hK1]; exact nfK_n q1 q2
  have kr : K1 (10000 + (F + 1)) = supL l := by rw [← hK1]; exact nfK_r
  have k5 : K1 50 (F + 1) = nI kd ∧ K1 51 (F + 1) = nI t ∧ K1 52 (F + 1) = nI cc ∧ K1 53 (F + 1) = nI l.length := by rw [← hK1]; exact nfK_5
  have el : ∀ f j, isLs f → K1 f j = K f j := fun f j hf => by rw [ko f (by unfold isLs at hf; omega) (by unfold isLs at hf; omega)]
  have N1 : NT exK K1 := by
    intro f j hf
    by_cases h1 : f = 10000 + (F + 1)
    · subst h1
      show K1 (10000 + (F + 1)) j = nI (K1 (10000 + (F + 1)) j).toNatClampNeg
      rw [kr]; unfold supL; split
      · rename_i hj; have := hsb j hj; rw [nI_clamp (by omega)]
      · rw [← nI_0, nI_clamp (by decide)]
    · by_cases h2 : 50 ≤ f ∧ f ≤ 58
      · have h3 := of_decide_eq_false hf
        by_cases hj : j = F + 1
        · subst hj
          show K1 f (F + 1) = nI (K1 f (F + 1)).toNatClampNeg
          have : f = 50 ∨ f = 51 ∨ f = 52 ∨ f = 53 := by omega
          rcases this with rfl | rfl | rfl | rfl
          · rw [k5.1, nI_clamp (by omega)]
          · rw [k5.2.1, nI_clamp (by omega)]
          · rw [k5.2.2.1, nI_clamp (by omega)]
          · rw [k5.2.2.2, nI_clamp (by omega)]
        · show K1 f j = nI (K1 f j).toNatClampNeg
          rw [kn f j (by omega) hj]; exact hR.nt f j hf
      · show K1 f j = nI (K1 f j).toNatClampNeg
        rw [ko f h2 h1]; exact hR.nt f j hf
  have eM : ∀ (p : Nat → Bool), (∀ f, p f = true → ¬ (33 ≤ f ∧ f ≤ 40)) → ∀ f, p f = true → M1 f = M f := fun p hp f hf => ef f (by
    have := hp f hf
    cases hq : nfF f
    · rfl
    · unfold nfF at hq; split at hq <;> first | omega | cases hq)
  have eK : ∀ (p : Nat → Bool), (∀ f, p f = true → ¬ (50 ≤ f ∧ f ≤ 58) ∧ f < 10000) → ∀ f, p f = true → K1 f = K f := fun p hp f hf => ko f (hp f hf).1 (by have := (hp f hf).2; omega)
  refine ⟨N1, hR.la.cg el, hR.a.cg (eK _ (fun f hf => by have := of_decide_eq_true hf; omega)) (eM _ (fun f hf => by have := of_decide_eq_true hf; omega)), hR.s.cg a1 (eK _ (fun f hf => by have := of_decide_eq_true hf; omega)) (eM _ (fun f hf => by have := of_decide_eq_true hf; omega)), hR.d.cg (eK _ (fun f hf => by have := of_decide_eq_true hf; omega)) (eM _ (fun f hf => by have := of_decide_eq_true hf; omega)), hR.w.cg a1 (eK _ (fun f hf => by have := of_decide_eq_true hf; omega)) (eM _ (fun f hf => by have := of_decide_eq_true hf; omega)), ?_, hR.p.cg (fun c hc => lsL_e (by omega) el) (eK _ (fun f hf => by have := of_decide_eq_true hf; omega)) (eM _ (fun f hf => by have := of_decide_eq_true hf; omega)), hR.l.cg (eK _ (fun f hf => by have := of_decide_eq_true hf; omega)) (eM _ (fun f hf => by have := of_decide_eq_true hf; omega)), hR.j.cg (eK _ (fun f hf => by have := of_decide_eq_true hf; omega)) (eM _ (fun f hf => by have := of_decide_eq_true hf; omega)), hR.g.cg (eM _ (fun f hf => by have := of_decide_eq_true hf; omega)), hR.hh.cg (ef 3 rfl) (ef 4 rfl)⟩
  refine ⟨e38, fun g hg => ?_⟩
  rw [e33, e34, e35, e36, e37]
  by_cases hgF : g = F
  · subst hgF
    rw [vu_s, vu_s, vu_s, vu_s, vu_s]
    refine ⟨nN_of k5.1 (by omega), nN_of k5.2.1 (by omega), k5.2.2.1.trans ecc.symm, nN_of k5.2.2.2 (by omega), fun j hj => ?_⟩
    rw [e39 j hj]
    show (K1 (10000 + (g + 1)) j).toNatClampNeg = _
    rw [kr]; unfold supL
    have := hsb j hj
    rw [if_pos hj, nI_clamp (by omega)]
  · rw [vu_n hgF, vu_n hgF, vu_n hgF, vu_n hgF, vu_n hgF]
    obtain ⟨q1, q2, q3, q4, q5⟩ := hR.f.2 g (by omega)
    have nk : ∀ f, f < 10000 → nN K1 f (g + 1) = nN K f (g + 1) := fun f hf => by unfold nN; rw [kn f (g + 1) hf (by omega)]
    refine ⟨by rw [nk 50 (by decide)]; exact q1, by rw [nk 51 (by decide)]; exact q2, by rw [kn 52 (g + 1) (by decide) (by omega)]; exact q3, by rw [nk 53 (by decide)]; exact q4, fun j hj => ?_⟩
    have hfg := (hI.f.1 g (by omega)).2.2.2.1
    rw [nN_e (ko (10000 + (g + 1)) (by omega) (by omega)), e39' _ (by omega)]
    exact q5 j hj
/-- what a rule answers, against what the asked stage becomes -/
def RsM (n F : Nat) (M M' : MS) (t : Nat) (r : Rs) : Prop :=
  (∃ u, r = rsA u ∧ (1 ≤ u ∧ u ≤ n) ∧ nN M 8 u ≠ 0 ∧ M' = asM M t u) ∨ (∃ v, r = rsV v ∧ M' = wvM M t v) ∨ (r = rsO ∧ M' = markM M t (nI 3)) ∨
  ∃ M1 kd ca l, NFE M M1 kd t ca l ∧ M' = wfM M1 t (nI F) ∧ r = rsF (nI kd) (ca + nI 1) l.length (supL l) ∧ kd ≤ 15 ∧ l.length ≤ 24 ∧ (ca = -1 ∨ ∃ h, h < F ∧ ca = nI h) ∧ ∀ o ∈ l, o < F
theorem up3_e {K : MS} {t : Nat} {a b c : Int32} : (∀ f, f ≠ 16 → f ≠ 17 → f ≠ 18 → up2 (up2 (up2 K 16 t a) 17 t b) 18 t c f = K f) ∧ nN (up2 (up2 (up2 K 16 t a) 17 t b) 18 t c) 16 = va_up (nN K 16) t a.toNatClampNeg ∧ up2 (up2 (up2 K 16 t a) 17 t b) 18 t c 17 = va_up (K 17) t b ∧ nN (up2 (up2 (up2 K 16 t a) 17 t b) 18 t c) 18 = va_up (nN K 18) t c.toNatClampNeg := by
  refine ⟨fun f h1 h2 h3 => by rw [up2_f h3, up2_f h2, up2_f h1], by rw [nN_f (by decide), nN_f (by decide), nN_s], by rw [up2_f (by decide), up2_va, up2_f (by decide)], by rw [nN_s, nN_f (by decide), nN_f (by decide)]⟩
theorem up2_id {K : MS} {f t : Nat} : up2 K f t (K f t) = K := by
  funext g j
  by_cases h : g = f ∧ j = t
  · obtain ⟨rfl, rfl⟩ := h; rw [up2_s]
  · rw [up2_n h]
/-- the class's state of an open stage: no value, no failure -/
theorem Rel.k18 (hR : Rel n k F K L M) (h1t : 1 ≤ t) (ht : t ≤ n) (ho : nN M 8 t = 0) : nN K 18 t = 0 := by
  rw [(hR.d t h1t ht).2.2.1, if_neg (by omega)]
theorem res_sim {r : Rs} (hR : Rel n k F K L M) (hI : Inv n k w 0 y M) (hy : y ≤ 1) (h1t : 1 ≤ t) (ht : t ≤ n) (ho : nN M 8 t = 0) (hr : RsM n F M M' t r) (h13 : t ∉ lsL K 13 ∨ r.1 = 4) (h13l : (lsL K 13).length ≤ 200) :
    r.1 ≠ 0 ∧ nI 5 ≤ resK K t F r 16 t ∧ EndR M M' t ∧ Rel n k (resF F r) (nteK (resK K t F r) t) L M' ∧ lsL (nteK (resK K t F r) t) 13 = lsL K 13 ++ (if nN M' 8 t = 3 then [t] else []) ∧ nN (nteK (resK K t F r) t) 16 t = nN M' 8 t + 4 := by
  have bd := hI.bd (by decide) hy
  have a1 := hI.a.1
  have hF0 := hR.f.1
  have k10 : K 10 t = nI t := (hR.nt.eq rfl (by omega)).mpr (hR.s t h1t ht).1
  rcases hr with ⟨u, rfl, hu, h8, rfl⟩ | ⟨v, rfl, rfl⟩ | ⟨rfl, rfl⟩ | ⟨M1, kd, ca, l, E, rfl, rfl, hk, hl, hca, hm⟩
  · have h3 : nN M 8 u ≤ 3 := (hI.d u hu.1 hu.2).1
    obtain ⟨EE, e11, e12⟩ := as_E (t := t) (s := u) hI (by decide) hy h1t ht ho ⟨by omega, h3⟩
    have du := hR.d u hu.1 hu.2
    have er : resK K t F (rsA u) = up2 (up2 (up2 K 16 t (K 16 u)) 17 t (K 17 u)) 18 t (K 18 u) := rfl
    have e16 : K 16 u = nI (nN M 8 u + 4) := by rw [hR.nt 16 u rfl, du.1]; unfold stt; rw [if_neg h8]
    have e18 : K 18 u = nI (if nN M 8 u = 2 then nN M 12 u + 1 else 0) := by rw [hR.nt 18 u rfl, du.2.2.1]
    have b12 : nN M 8 u = 2 → nN M 12 u < nN M 38 0 := fun q => (hI.f12 hu.1 hu.2 q).1
    have b18 : (if nN M 8 u = 2 then nN M 12 u + 1 else 0) < 2 ^ 31 := by split; have := b12 (by assumption); omega; omega
    rw [er]
    obtain ⟨o1, g16, g17, g18⟩ := up3_e (K := K) (t := t) (a := K 16 u) (b := K 17 u) (c := K 18 u)
    have N1 : NT exK (up2 (up2 (up2 K 16 t (K 16 u)) 17 t (K 17 u)) 18 t (K 18 u)) := ((hR.nt.upm rfl).upx rfl).up (fun _ => hR.nt 18 u rfl)
    rw [e16, nI_clamp (by omega)] at g16
    rw [e18, nI_clamp b18] at g18
    rw [← e18] at g18
    rw [← e16] at g16
    have EK := hR.ek (h := nN M 8 u) hI (by decide) hy h1t ht ho ⟨by omega, h3⟩ o1 g16 N1 (h13.elim Or.inl (fun q => absurd q (show (1 : Nat) ≠ 4 by decide))) h13l
    have RR2 := hR.end hI (by decide) hy h1t ht ho ⟨by omega, h3⟩ EE o1 g16 (by rw [g17, e11, du.2.1]) (by rw [g18]; show va_up _ _ _ = va_up _ _ (if nN M 8 u = 2 then (asM M t u 12 t).toNatClampNeg + 1 else 0); rw [e12]; rfl) EK
    have q8 : nN (asM M t u) 8 t = nN M 8 u := by rw [EE.1.1, vu_s]
    refine ⟨by show 1 ≠ 0; decide, ?_, Or.inl ⟨_, ⟨by omega, h3⟩, EE, fun q => by rw [nN, e12]; exact b12 q⟩, RR2, ?_, ?_⟩
    · rw [N1.le rfl (by decide), g16, vu_s]; omega
    · rw [EK.2.2.2.1.2, g16, vu_s, q8, lsL_up (by decide) (by decide), lsL_up (by decide) (by decide), lsL_up (by decide) (by decide)]
      by_cases z : nN M 8 u = 3
      · rw [if_pos (by omega), if_pos z]
      · rw [if_neg (by omega), if_neg z]
    · rw [nN_e (EK.2.2.2.2.2.2.2 16 rfl), g16, vu_s, q8]
  · obtain ⟨EE, e11, e12⟩ := wv_E (t := t) hI (by decide) hy h1t ht ho v
    have er : resK K t F (rsV v) = up2 (up2 K 16 t (nI 5)) 17 t v := rfl
    have er2 : up2 (up2 K 16 t (nI 5)) 17 t v = up2 (up2 (up2 K 16 t (nI 5)) 17 t v) 18 t (K 18 t) := by
      have : K 18 t = up2 (up2 K 16 t (nI 5)) 17 t v 18 t := by rw [up2_f (by decide), up2_f (by decide)]
      rw [this, up2_id]
    rw [er, er2]
    obtain ⟨o1, g16, g17, g18⟩ := up3_e (K := K) (t := t) (a := nI 5) (b := v) (c := K 18 t)
    have N1 : NT exK (up2 (up2 (up2 K 16 t (nI 5)) 17 t v) 18 t (K 18 t)) := ((hR.nt.upn (by decide)).upx rfl).up (fun _ => hR.nt 18 t rfl)
    rw [nI_clamp (by decide)] at g16
    have z18 : (K 18 t).toNatClampNeg = 0 := hR.k18 h1t ht ho
    have EK := hR.ek (h := 1) hI (by decide) hy h1t ht ho ⟨by decide, by decide⟩ o1 g16 N1 (h13.elim Or.inl (fun q => absurd q (show (2 : Nat) ≠ 4 by decide))) h13l
    have RR2 := hR.end (h := 1) hI (by decide) hy h1t ht ho ⟨by decide, by decide⟩ EE o1 g16 (by rw [g17, e11]) (by rw [g18, z18]; rfl) EK
    have q8 : nN (wvM M t v) 8 t = 1 := by rw [EE.1.1, vu_s]
    refine ⟨by show 2 ≠ 0; decide, ?_, Or.inl ⟨1, ⟨by decide, by decide⟩, EE, fun q => by omega⟩, RR2, ?_, ?_⟩
    · rw [N1.le rfl (by decide), g16, vu_s]; omega
    · rw [EK.2.2.2.1.2, g16, vu_s, q8, lsL_up (by decide) (by decide), lsL_up (by decide) (by decide), lsL_up (by decide) (by decide), if_neg (by decide), if_neg (by decide)]
    · rw [nN_e (EK.2.2.2.2.2.2.2 16 rfl), g16, vu_s, q8]
  · obtain ⟨EE, e11, e12⟩ := mark_E (t := t) (h := 3) hI (by decide) hy h1t ht ho ⟨by decide, by decide⟩
    have er : resK K t F rsO = up2 K 16 t (nI 7) := rfl
    have er2 : up2 K 16 t (nI 7) = up2 (up2 (up2 K 16 t (nI 7)) 17 t (K 17 t)) 18 t (K 18 t) := by
      have q1 : K 17 t = up2 K 16 t (nI 7) 17 t := by rw [up2_f (by decide)]
      have q2 : up2 (up2 K 16 t (nI 7)) 17 t (K 17 t) = up2 K 16 t (nI 7) := by rw [q1, up2_id]
      have q3 : K 18 t = up2 K 16 t (nI 7) 18 t := by rw [up2_f (by decide)]
      rw [q2, q3, up2_id]
    rw [er, er2]
    obtain ⟨o1, g16, g17, g18⟩ := up3_e (K := K) (t := t) (a := nI 7) (b := K 17 t) (c := K 18 t)
    have N1 : NT exK (up2 (up2 (up2 K 16 t (nI 7)) 17 t (K 17 t)) 18 t (K 18 t)) := ((hR.nt.upn (by decide)).upx rfl).up (fun _ => hR.nt 18 t rfl)
    rw [nI_clamp (by decide)] at g16
    have z18 : (K 18 t).toNatClampNeg = 0 := hR.k18 h1t ht ho
    have EK := hR.ek (h := 3) hI (by decide) hy h1t ht ho ⟨by decide, by decide⟩ o1 g16 N1 (h13.elim Or.inl (fun q => absurd q (show (3 : Nat) ≠ 4 by decide))) h13l
    have RR2 := hR.end (h := 3) hI (by decide) hy h1t ht ho ⟨by decide, by decide⟩ EE o1 g16 (by rw [g17, e11, (hR.d t h1t ht).2.1]) (by rw [g18, z18]; rfl) EK
    have q8 : nN (markM M t (nI 3)) 8 t = 3 := by rw [EE.1.1, vu_s]
    refine ⟨by show 3 ≠ 0; decide, ?_, Or.inl ⟨3, ⟨by decide, by decide⟩, EE, fun q => by omega⟩, RR2, ?_, ?_⟩
    · rw [N1.le rfl (by decide), g16, vu_s]; omega
    · rw [EK.2.2.2.1.2, g16, vu_s, q8, lsL_up (by decide) (by decide), lsL_up (by decide) (by decide), lsL_up (by decide) (by decide), if_pos rfl, if_pos rfl]
    · rw [nN_e (EK.2.2.2.2.2.2.2 16 rfl), g16, vu_s, q8]
  · have hF1 : nN M 38 0 = F := hF0
    have hca' : ca = -1 ∨ ∃ h, h < nN M 38 0 ∧ ca = nI h := by rw [hF1]; exact hca
    have hm' : ∀ o ∈ l, o < nN M 38 0 := by rw [hF1]; exact hm
    have R1 := hR.nf hI E hk hl hca' hm' (by omega) (by omega)
    have I1 := E.inv hI hk hl hca' hm'
    have ef := E.2.2.2.2.2.2.2.2.2.2
    have e8 : nN M1 8 = nN M 8 := nN_e (ef 8 rfl)
    have ho1 : nN M1 8 t = 0 := by rw [e8]; exact ho
    obtain ⟨EE, e11, e12⟩ := wf_E (t := t) (v := F) I1 (by decide) hy h1t ht ho1 (by omega)
    generalize hK1 : newFK K (F + 1) (nI kd) (nI t) (ca + nI 1) l.length (supL l) = K1 at R1
    have er : resK K t F (rsF (nI kd) (ca + nI 1) l.length (supL l)) = up2 (up2 K1 16 t (nI 6)) 18 t (nI (F + 1)) := by
      show failK (newFK K (F + 1) (nI kd) (K 10 t) (ca + nI 1) l.length (supL l)) t (nI (F + 1)) = _
      rw [k10, hK1]; rfl
    have er2 : up2 (up2 K1 16 t (nI 6)) 18 t (nI (F + 1)) = up2 (up2 (up2 K1 16 t (nI 6)) 17 t (K1 17 t)) 18 t (nI (F + 1)) := by
      have q1 : K1 17 t = up2 K1 16 t (nI 6) 17 t := by rw [up2_f (by decide)]
      rw [q1, up2_id]
    have l13 : lsL K1 13 = lsL K 13 := lsL_e (by decide) (fun f j hf => by rw [← hK1, nfK_o (by unfold isLs at hf; omega) (by unfold isLs at hf; omega)])
    rw [er, er2]
    obtain ⟨o1, g16, g17, g18⟩ := up3_e (K := K1) (t := t) (a := nI 6) (b := K1 17 t) (c := nI (F + 1))
    have N1 : NT exK (up2 (up2 (up2 K1 16 t (nI 6)) 17 t (K1 17 t)) 18 t (nI (F + 1))) := ((R1.nt.upn (by decide)).upx rfl).upn (by omega)
    rw [nI_clamp (by decide)] at g16
    rw [nI_clamp (by omega)] at g18
    have EK := R1.ek (h := 2) I1 (by decide) hy h1t ht ho1 ⟨by decide, by decide⟩ o1 g16 N1 (Or.inr (by decide)) (by rw [l13]; exact h13l)
    have RR2 := R1.end (h := 2) I1 (by decide) hy h1t ht ho1 ⟨by decide, by decide⟩ EE o1 g16 (by rw [g17, e11, (R1.d t h1t ht).2.1]) (by rw [g18, if_pos rfl, nN_of e12 (by omega)]) EK
    have q8 : nN (wfM M1 t (nI F)) 8 t = 2 := by rw [EE.1.1, vu_s]
    refine ⟨by show 4 ≠ 0; decide, ?_, Or.inr ⟨M1, kd, ca, l, E, hk, hl, hca', hm', EE, by rw [hF1]; exact nN_of e12 (by omega)⟩, RR2, ?_, ?_⟩
    · rw [N1.le rfl (by decide), g16, vu_s]; omega
    · rw [EK.2.2.2.1.2, g16, vu_s, q8, lsL_up (by decide) (by decide), lsL_up (by decide) (by decide), lsL_up (by decide) (by decide), if_neg (by decide), if_neg (by decide), l13]
    · rw [nN_e (EK.2.2.2.2.2.2.2 16 rfl), g16, vu_s, q8]
end RNFS
