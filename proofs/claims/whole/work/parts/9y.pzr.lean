/-! a pause, in the relation -/
section PZRS
variable {n k F w x y : Nat} {K K1 K' : MS} {L L' : KL} {M M1 M' : MS} {t h : Nat}
theorem nt_eq {e : Nat → Bool} {f : Nat} (h1 : NT e M) (h2 : NT e M') (hf : e f = false) (he : nN M' f = nN M f) : M' f = M f := funext (fun i => by rw [h1 f i hf, h2 f i hf, he])
def pkF (t f : Nat) : Bool := decide (f = 16 ∨ f = 25 ∨ f = 29 ∨ f = 31 ∨ f = 32 ∨ f = 2000 + t ∨ f = 3000 + t ∨ (63 ≤ f ∧ f ≤ 67) ∨ (80 ≤ f ∧ f ≤ 82) ∨ (4000 ≤ f ∧ f < 10000))
theorem Rel.pause {kd : Nat} (hR : Rel n k F K L M) (hI : Inv n k w 0 0 M) (hNd : Nd n M) (h1t : 1 ≤ t) (ht : t ≤ n) (ho : nN M 8 t = 0) (h10 : nN M 2 t = 10) (hw : nN M 19 t = 2) (hk : kd ≤ 15) (hkd : fwKd K t = nI kd) (hm : nN M 21 t ≤ nN M 29 t) (E : PzE M M' t kd) :
    Rel n k (F + 1) (fnP K F t) (mrkL L (bpO K t (K 2 0)).toNatClampNeg) M' ∧ lsL (fnP K F t) 13 = lsL K 13 ∧ (∃ v, v ≤ 100000 ∧ bpO K t (K 2 0) = nI v) := by
  have h9 : 9 ≤ nN M 2 t := by omega
  have bd := hI.bd (by decide) (by decide)
  obtain ⟨a1, a2, a3, a4, a5, a6, a7⟩ := hI.a
  have hF0 := hR.f.1
  have hs := hI.s.2 t h1t ht
  have h29 := hs.2.2.2.2.2.2.1
  have h30 := hs.2.2.2.2.2.2.2.2
  have d := hI.d t h1t ht
  have d2 := (d.2.2.2.2 h9).2 ho
  have d3 := d2.1 (Or.inl hw)
  have rs := hR.s t h1t ht
  obtain ⟨⟨q1, q2, q3, q4, q5⟩, q6, q7, q8⟩ := hR.w t h1t ht h9
  rw [if_pos ⟨ho, Or.inl hw⟩] at q6
  have k2 : nN K 2 0 = nN M 0 0 := hR.a.2.2.1
  have k33 : nN K 33 t = nN M 30 t := (rs.2.2.2.2.2.2 h9).2.1
  have hp5 : nN M 27 t ≤ 4 := by omega
  have h2p : 2 ^ nN M 27 t ≤ 32 := Nat.pow_le_pow_right (n := 2) (by decide) (show nN M 27 t ≤ 5 by omega)
  have hmul : nN M 30 t * 2 ^ nN M 27 t ≤ 30 * 32 := Nat.mul_le_mul h30 h2p
  have eO : bpO K t (K 2 0) = nI (nN M 0 0 + nN M 30 t * 2 ^ nN M 27 t) := by
    unfold bpO
    rw [hR.nt 2 0 rfl, hR.nt 33 t rfl, hR.nt 32 t rfl, k2, k33, q5, shl_s _ (by omega) _ (by omega), nI_add]
  obtain ⟨⟨m33, m34, m35, m36, m37, m38⟩, ⟨m19, m27, m28, m31⟩, lg, mpl, mN, mf⟩ := E
  generalize hO : nN M 0 0 + nN M 30 t * 2 ^ nN M 27 t = O at eO m28
  have hOb : O ≤ 11000 := by omega
  -- the new failure
  have NF := nf_E (M := M) (kd := kd) (at' := t) (ca := -1) hI.nt (by omega) (by omega) (by omega)
  have R1 := hR.nf hI NF hk (by decide) (Or.inl rfl) (fun o q => by cases q) (by omega) (by omega)
  have NF2 := NF
  obtain ⟨n33, n34, n35, n36, n37, n38, n40, -, -, nN1, -⟩ := NF2
  have eN : fnN K F t = newFK K (F + 1) (nI kd) (nI t) (-1 + nI 1) ([] : List Nat).length (supL []) := by
    unfold fnN
    rw [hkd, hR.nt 10 t rfl, rs.1, ← sup0, show (-1 + nI 1 : Int32) = 0 by decide +kernel]; rfl
  rw [← eN] at R1
  have no1 : ∀ f, ¬ (50 ≤ f ∧ f ≤ 58) → f ≠ 10000 + (F + 1) → fnN K F t f = K f := fun f a b => by unfold fnN; exact nfK_o a b
  generalize hK1 : fnN K F t = K1 at R1 no1
  have c : ∀ f, f < 50 → K1 f = K f := fun f hf => no1 f (by omega) (by omega)
  -- pausing
  have eO1 : bpO K1 t (K 2 0) = nI O := by
    rw [← eO]; unfold bpO; rw [c 33 (by decide), c 32 (by decide)]
  have p32 : nN K1 32 t = nN M 27 t := by rw [nN_e (c 32 (by decide))]; exact q5
  have eP1 : fnP1 K F t = up2 (up2 (up2 (up2 (up2 K1 25 t (nI O)) (2000 + t) (nN M 27 t) (nI O)) (3000 + t) (nN M 27 t) (nI (F + 1))) 32 t (nI (nN M 27 t + 1))) 16 t (nI 4) := by
    unfold fnP1 bpK; rw [hK1, eO1, p32]
  generalize hK2 : fnP1 K F t = K2 at eP1
  have N2 : NT exK K2 := by rw [eP1]; exact ((((R1.nt.upn (by omega)).upn (by omega)).upn (by omega)).upn (by omega)).upn (by decide)
  have o2 : ∀ f, f ≠ 16 → f ≠ 32 → f ≠ 3000 + t → f ≠ 2000 + t → f ≠ 25 → K2 f = K1 f := fun f a b c d e => by rw [eP1, up2_f a, up2_f b, up2_f c, up2_f d, up2_f e]
  have el2 : ∀ f j, isLs f → K2 f j = K1 f j := fun f j hf => by rw [o2 f (by unfold isLs at hf; omega) (by unfold isLs at hf; omega) (by unfold isLs at hf; omega) (by unfold isLs at hf; omega) (by unfold isLs at hf; omega)]
  have el1 : ∀ f j, isLs f → K1 f j = K f j := fun f j hf => by rw [no1 f (by unfold isLs at hf; omega) (by unfold isLs at hf; omega)]
  have L2 : LA K2 n := R1.la.cg el2
  have l2 : ∀ a, a ≤ 13 → lsL K2 a = lsL K a := fun a ha => by rw [lsL_e ha el2, lsL_e ha el1]
  have u31 : nN K2 31 = nN K 31 := by rw [nN_e (o2 31 (by decide) (by decide) (by omega) (by omega) (by decide)), nN_e (c 31 (by decide))]
  have u29 : nN K2 29 = nN K 29 := by rw [nN_e (o2 29 (by decide) (by decide) (by omega) (by omega) (by decide)), nN_e (c 29 (by decide))]
  have u16 : nN K2 16 = va_up (nN K 16) t 4 := by rw [eP1, nN_sn (by decide), nN_f (by decide), nN_f (by omega), nN_f (by omega), nN_f (by decide), nN_e (c 16 (by decide))]
  have u25 : nN K2 25 = va_up (nN K 25) t O := by rw [eP1, nN_f (by decide), nN_f (by decide), nN_f (by omega), nN_f (by omega), nN_sn (by omega), nN_e (c 25 (by decide))]
  have u32 : nN K2 32 = va_up (nN K 32) t (nN M 27 t + 1) := by rw [eP1, nN_f (by decide), nN_sn (by omega), nN_f (by omega), nN_f (by omega), nN_f (by decide), nN_e (c 32 (by decide))]
  have u20 : nN K2 (2000 + t) = va_up (nN K (2000 + t)) (nN M 27 t) O := by rw [eP1, nN_f (by omega), nN_f (by omega), nN_f (by omega), nN_sn (by omega), nN_f (by omega), nN_e (no1 (2000 + t) (by omega) (by omega))]
  have u30 : nN K2 (3000 + t) = va_up (nN K (3000 + t)) (nN M 27 t) (F + 1) := by rw [eP1, nN_f (by omega), nN_f (by omega), nN_sn (by omega), nN_f (by omega), nN_f (by omega), nN_e (no1 (3000 + t) (by omega) (by omega))]
  have h31 : nN K2 31 t = nN M 25 t := by rw [u31]; exact q6
  -- released
  obtain ⟨r0, r1, r13, r31, r29, N3⟩ := rel_E (t := t) L2 (by omega) N2 (by omega)
  rw [h31] at r1 r29
  rw [if_neg (by omega), u16, vu_s, if_neg (by decide), u29] at r29
  rw [u31] at r31
  have hh31 : nN K2 31 t ≤ 12 := by omega
  have o3 : ∀ f, f ≠ 29 → f ≠ 31 → f ≠ 63 → ¬ isLs f → relK K2 t f = K2 f := fun f a b c d => funext (fun j => relK_o hh31 a b c d)
  have L3 : LA (relK K2 t) n := L2.rel (by omega) hh31
  have hP2 : fnP2 K F t = relK K2 t := by unfold fnP2; rw [hK2]
  generalize hK3 : relK K2 t = K3 at r0 r1 r13 r31 r29 N3 o3 L3 hP2
  have nls : ∀ f, f < 64 ∨ (67 < f ∧ f < 4000) ∨ 10000 ≤ f → ¬ isLs f := fun f hf q => by unfold isLs at q; omega
  have v16 : nN K3 16 = va_up (nN K 16) t 4 := by rw [nN_e (o3 16 (by decide) (by decide) (by decide) (nls 16 (by decide)))]; exact u16
  have v25 : nN K3 25 = va_up (nN K 25) t O := by rw [nN_e (o3 25 (by decide) (by decide) (by decide) (nls 25 (by decide)))]; exact u25
  have v32 : nN K3 32 = va_up (nN K 32) t (nN M 27 t + 1) := by rw [nN_e (o3 32 (by decide) (by decide) (by decide) (nls 32 (by decide)))]; exact u32
  have v20 : nN K3 (2000 + t) = va_up (nN K (2000 + t)) (nN M 27 t) O := by rw [nN_e (o3 (2000 + t) (by omega) (by omega) (by omega) (nls _ (by omega)))]; exact u20
  have v30 : nN K3 (3000 + t) = va_up (nN K (3000 + t)) (nN M 27 t) (F + 1) := by rw [nN_e (o3 (3000 + t) (by omega) (by omega) (by omega) (nls _ (by omega)))]; exact u30
  have o31 : ∀ f, pkF t f = false → K3 f = K1 f := fun f hf => by
    have := of_decide_eq_false hf
    rw [o3 f (by omega) (by omega) (by omega) (fun q => by unfold isLs at q; omega), o2 f (by omega) (by omega) (by omega) (by omega) (by omega)]
  have o80 : ∀ f, 80 ≤ f → f ≤ 82 → K3 f = K f := fun f h1 h2 => by
    rw [o3 f (by omega) (by omega) (by omega) (nls f (by omega)), o2 f (by omega) (by omega) (by omega) (by omega) (by omega), no1 f (by omega) (by omega)]
  -- noted
  have j3 : jrOk K3 := jrOk_e (by rw [o80 80 (by decide) (by decide)]) (by rw [o80 81 (by decide) (by decide)]) (hR.jr hI (by decide) (by decide))
  have g80 : nN K3 80 = nN K 80 := nN_e (o80 80 (by decide) (by decide))
  have g82 : nN K3 82 = nN K 82 := nN_e (o80 82 (by decide) (by decide))
  obtain ⟨jE, NK⟩ := jrn_E (K := K3) (v := nN M 0 0) (s := t) (ev := 7) j3 (by rw [g80, hR.j.1]; omega) N3 (by omega) (by omega) (by decide)
  have eK : fnP K F t = jrnK K3 (nI (nN M 0 0)) (nI t) (nI 7) := by
    unfold fnP
    rw [hP2, hR.nt 2 0 rfl, k2, hR.nt 10 t rfl, rs.1]
  rw [← eK] at jE NK
  have oK : ∀ f, f ≠ 80 → f ≠ 81 → f ≠ 82 → fnP K F t f = K3 f := fun f h1 h2 h3 => funext (fun j => by rw [eK]; exact jrn_o h3 (fun e => h1 e.1) (fun e => h2 e.1))
  have elK : ∀ f j, isLs f → fnP K F t f j = K3 f j := fun f j hf => by rw [oK f (by unfold isLs at hf; omega) (by unfold isLs at hf; omega) (by unfold isLs at hf; omega)]
  have ko : ∀ f, pkF t f = false → fnP K F t f = K1 f := fun f hf => by
    have := of_decide_eq_false hf
    rw [oK f (by omega) (by omega) (by omega), o31 f hf]
  have kK : ∀ f, pkF t f = false → f < 50 ∨ (58 < f ∧ f < 10000) → fnP K F t f = K f := fun f hf h2 => by rw [ko f hf, no1 f (by omega) (by omega)]
  have mo : ∀ (p : Nat → Bool), (∀ f, p f = true → f ≠ 19 ∧ f ≠ 27 ∧ f ≠ 28 ∧ f ≠ 31 ∧ ¬ (33 ≤ f ∧ f ≤ 38) ∧ f ≠ 46 ∧ f ≠ 47 ∧ ¬ (50 ≤ f ∧ f ≤ 53)) → ∀ f, p f = true → M' f = M f := fun p hp f hf => mf f (by
    have := hp f hf
    cases hq : pzF f
    · rfl
    · unfold pzF at hq; split at hq <;> first | omega | cases hq)
  have mo1 : ∀ f, pzF f = false → nN M' f = nN M f := fun f hf => nN_e (mf f hf)
  have lK : ∀ a, a ≤ 13 → lsL (fnP K F t) a = lsL K3 a := fun a ha => lsL_e ha elK
  have ht0 : t ∉ lsL K 0 := fun z => by have := ((hR.p.2.1 t).mp z).2.2.2; omega
  rw [eO, nI_clamp (by omega)]
  refine ⟨⟨NK, L3.cg elK, ?_, ?_, ?_, ?_, ?_, ?_, ?_, ?_, ?_, ?_⟩, by rw [lK 13 (by decide), r13, l2 13 (by decide)], O, by omega, rfl⟩
  · exact hR.a.cg (fun f hf => kK f (decide_eq_false (by have := of_decide_eq_true hf; omega)) (by have := of_decide_eq_true hf; omega)) (mo _ (fun f hf => by have := of_decide_eq_true hf; omega))
  · exact hR.s.cg a1 (fun f hf => kK f (decide_eq_false (by have := of_decide_eq_true hf; omega)) (by have := of_decide_eq_true hf; omega)) (mo _ (fun f hf => by have := of_decide_eq_true hf; omega))
  · refine hR.d.wk (by rw [nN_e (oK 16 (by decide) (by decide) (by decide))]; exact v16) (fun f f1 f2 => kK f (decide_eq_false (by omega)) (by omega)) m19 (fun f hf hne => mf f ?_) h9 ho
    have := of_decide_eq_true hf
    cases hq : pzF f
    · rfl
    · unfold pzF at hq; split at hq <;> first | omega | cases hq
  · refine hR.w.wk (t := t) hI (fun f u f1 f2 hu => ?_) (fun u hu hun => ⟨nN_e (kK _ (decide_eq_false (by omega)) (by omega)), nN_e (kK _ (decide_eq_false (by omega)) (by omega))⟩) (fun f u hf hu => ?_) (fun u j hu hj => ⟨by rw [m28, vu_n (by omega)], by rw [m31, vu_n (by omega)]⟩) (fun _ _ _ => ?_)
    · have hc : f = 24 ∨ f = 25 ∨ f = 26 ∨ f = 27 ∨ f = 28 ∨ f = 29 ∨ f = 30 ∨ f = 31 ∨ f = 32 := by omega
      rcases hc with rfl | rfl | rfl | rfl | rfl | rfl | rfl | rfl | rfl
      · rw [nN_e (kK 24 (decide_eq_false (by omega)) (by decide))]
      · rw [nN_e (oK 25 (by decide) (by decide) (by decide)), v25, vu_n hu]
      · rw [nN_e (kK 26 (decide_eq_false (by omega)) (by decide))]
      · rw [nN_e (kK 27 (decide_eq_false (by omega)) (by decide))]
      · rw [nN_e (kK 28 (decide_eq_false (by omega)) (by decide))]
      · rw [nN_e (oK 29 (by decide) (by decide) (by decide)), r29, vu_n hu]
      · rw [nN_e (kK 30 (decide_eq_false (by omega)) (by decide))]
      · rw [nN_e (oK 31 (by decide) (by decide) (by decide)), r31, vu_n hu]
      · rw [nN_e (oK 32 (by decide) (by decide) (by decide)), v32, vu_n hu]
    · have hc : f = 2 ∨ f = 8 ∨ f = 19 ∨ f = 20 ∨ f = 21 ∨ f = 22 ∨ f = 23 ∨ f = 24 ∨ f = 25 ∨ f = 26 ∨ f = 27 := by omega
      rcases hc with rfl | rfl | rfl | rfl | rfl | rfl | rfl | rfl | rfl | rfl | rfl
      · rw [mo1 2 rfl]
      · rw [mo1 8 rfl]
      · rw [m19, vu_n hu]
      · rw [mo1 20 rfl]
      · rw [mo1 21 rfl]
      · rw [mo1 22 rfl]
      · rw [mo1 23 rfl]
      · rw [mo1 24 rfl]
      · rw [mo1 25 rfl]
      · rw [mo1 26 rfl]
      · rw [m27, vu_n hu]
    · unfold qW1
      rw [nN_e (kK 26 (decide_eq_false (by omega)) (by decide)), nN_e (kK 27 (decide_eq_false (by omega)) (by decide)), nN_e (oK 29 (by decide) (by decide) (by decide)), r29, nN_e (kK 30 (decide_eq_false (by omega)) (by decide)), nN_e (oK 32 (by decide) (by decide) (by decide)), v32, nN_e (oK 31 (by decide) (by decide) (by decide)), r31, nN_e (kK 24 (decide_eq_false (by omega)) (by decide)), nN_e (oK 25 (by decide) (by decide) (by decide)), v25, nN_e (kK 28 (decide_eq_false (by omega)) (by decide)), nN_e (oK (2000 + t) (by omega) (by omega) (by omega)), v20, nN_e (oK (3000 + t) (by omega) (by omega) (by omega)), v30, mo1 22 rfl, mo1 21 rfl, mo1 26 rfl, mo1 25 rfl, m27, mo1 8 rfl, m19, mo1 20 rfl, mo1 23 rfl, mo1 24 rfl, m28, m31, vu_s, vu_s, vu_s, vu_s, vu_s, vu_s]
      refine ⟨⟨q1, q2, ((hNd t h1t ht ho).2).symm, q4, rfl⟩, by rw [if_neg (by omega)], fun _ => ⟨fun z => by omega, fun z => by omega, fun _ => by rw [show 6 * t + (nN M 27 t + 1) - 1 = 6 * t + nN M 27 t by omega, vu_s]⟩, fun j hj => ?_⟩
      by_cases hj2 : j = nN M 27 t
      · subst hj2; rw [vu_s, vu_s, vu_s, vu_s, hF0]; exact ⟨rfl, rfl⟩
      · rw [vu_n hj2, vu_n hj2, vu_n (by omega), vu_n (by omega)]; exact q8 j (by omega)
  · have e33 := m33.trans n33.symm
    have e34 := m34.trans n34.symm
    have e35 := m35.trans n35.symm
    have e36 := m36.trans n36.symm
    have e37 := m37.trans n37.symm
    have e39 : nN M' 39 = nN (newFM M (nN M 38 0) (nI kd) (nI t) (-1)) 39 := by rw [mo1 39 rfl, nN_e (newFM_o (by decide) (by decide) (by decide) (by decide) (by decide) (by decide))]
    refine ⟨by rw [m38, hF0], fun g hg => ?_⟩
    have z := R1.f.2 g hg
    rw [nN_e (ko 50 (decide_eq_false (by omega))), nN_e (ko 51 (decide_eq_false (by omega))), ko 52 (decide_eq_false (by omega)), nN_e (ko 53 (decide_eq_false (by omega))), nN_e (ko (10000 + (g + 1)) (decide_eq_false (by omega))), e33, e34, e35, e36, e37, e39]
    exact z
  · obtain ⟨p1, p2, p3⟩ := hR.p
    refine ⟨fun c' h1 h2 => ⟨?_, ?_⟩, fun u => ?_, fun c' h1 h2 => ?_⟩
    · rw [lK c' (by omega), mpl c' h2, r1 c' h1 h2, l2 c' (by omega), (p1 c' h1 h2).1]
      by_cases z : c' = nN M 25 t
      · rw [if_pos z]
      · rw [if_neg z, List.erase_of_not_mem]
        intro hm2
        exact z ((hI.p c' h2).2.2 t hm2).2.2.2.2.2.symm
    · rw [nN_e (kK 60 (decide_eq_false (by omega)) (by decide))]; exact (p1 c' h1 h2).2
    · rw [lK 0 (by decide), r0, l2 0 (by decide), List.erase_of_not_mem ht0, p2 u, mo1 2 rfl, mo1 8 rfl, m19]
      by_cases hu : u = t
      · subst hu; rw [vu_s]; exact ⟨fun z => by omega, fun z => by omega⟩
      · rw [vu_n hu]
    · rw [kK 61 (decide_eq_false (by omega)) (by decide), kK 62 (decide_eq_false (by omega)) (by decide), mf 48 rfl, mf 49 rfl]; exact p3 c' h1 h2
  · exact hR.l.cg (fun f hf => kK f (decide_eq_false (by have := of_decide_eq_true hf; omega)) (by have := of_decide_eq_true hf; omega)) (mo _ (fun f hf => by have := of_decide_eq_true hf; omega))
  · obtain ⟨z1, z2, z3, z4⟩ := jE
    rw [g80] at z1 z2 z3 z4
    rw [g82] at z3
    exact hR.j.lg (v := nN M 0 0) ⟨z1, z2, z3, z4⟩ lg rfl
  · refine hR.g.wk (t := t) hI (fun v z => mrk_mk v z) (mf 14 rfl) (fun f u hf hu => ?_) (by rw [mo1 2 rfl]) (by rw [mo1 8 rfl]) (by rw [mo1 32 rfl]) (fun u j hu hj => by rw [m28, vu_n (by omega)]) (fun _ _ _ _ => ?_)
    · rcases hf with rfl | rfl | rfl | rfl | rfl | rfl
      · rw [mo1 2 rfl]
      · rw [mo1 8 rfl]
      · rw [m19, vu_n hu]
      · rw [mo1 23 rfl]
      · rw [m27, vu_n hu]
      · rw [mo1 32 rfl]
    · rw [m19, vu_s, m27, vu_s, m28, show 6 * t + (nN M 27 t + 1) - 1 = 6 * t + nN M 27 t by omega, vu_s]
      exact ⟨fun z => by omega, fun _ z => mrk_s z⟩
  · exact (hR.hh.cg (mf 3 rfl) (mf 4 rfl)).mrk
end PZRS
