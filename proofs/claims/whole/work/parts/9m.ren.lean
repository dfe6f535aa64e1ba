/-! an end keeps the relation -/
section RENS
variable {n k F w x y : Nat} {K K1 K' : MS} {L L' : KL} {M M' : MS} {t h : Nat}
theorem Rel.ek (hR : Rel n k F K L M) (hI : Inv n k w x y M) (hx : x ≤ 1) (hy : y ≤ 1) (h1t : 1 ≤ t) (ht : t ≤ n) (ho : nN M 8 t = 0) (hh : 1 ≤ h ∧ h ≤ 3)
    (o1 : ∀ f, f ≠ 16 → f ≠ 17 → f ≠ 18 → K1 f = K f) (e16 : nN K1 16 = va_up (nN K 16) t (h + 4)) (N1 : NT exK K1) (h13 : t ∉ lsL K 13 ∨ h ≠ 3) (h13l : (lsL K 13).length ≤ 200) : EndK n K1 (nteK K1 t) t := by
  have bd := hI.bd hx hy
  obtain ⟨a1, a2, a3, a4, a5, a6, a7⟩ := hI.a
  have hlt := hI.e.lt h1t ht ho
  have eo : ∀ f, f ≠ 16 → f ≠ 17 → f ≠ 18 → nN K1 f = nN K f := fun f p q r => nN_e (o1 f p q r)
  have el : ∀ f j, isLs f → K1 f j = K f j := fun f j hf => by rw [o1 f (by unfold isLs at hf; omega) (by unfold isLs at hf; omega) (by unfold isLs at hf; omega)]
  have eL : ∀ c, c ≤ 13 → lsL K1 c = lsL K c := fun c hc => lsL_e hc el
  have hs := hR.s t h1t ht
  have hW : isWK K1 t = isWK K t := wk_e (fun j => by rw [o1 11 (by decide) (by decide) (by decide)]) t
  have hw9 := isW_iff hR hI h1t ht
  have hin : ∀ a, a < nN M 4 t → iK K1 t a = iN M t a := fun a ha => by unfold iK; rw [eo _ (by omega) (by omega) (by omega)]; exact hs.2.2.2.1 a ha
  have e12 : nN K1 12 t = nN M 4 t := by rw [eo 12 (by decide) (by decide) (by decide)]; exact hs.2.2.1
  refine nte_E (hR.la.cg el) a1 N1 (jrOk_e (by rw [o1 80 (by decide) (by decide) (by decide)]) (by rw [o1 81 (by decide) (by decide) (by decide)]) (hR.jr hI hx hy)) ?_ ⟨h1t, ht⟩ ?_ ?_ ?_ ?_ ?_ ?_ ?_ ?_ ?_
  · rw [eo 80 (by decide) (by decide) (by decide), hR.j.1]; omega
  · rw [eo 10 (by decide) (by decide) (by decide)]; exact hs.1
  · rw [e16, vu_s]; omega
  · intro q
    rw [hW, hw9] at q
    rw [eo 31 (by decide) (by decide) (by decide), (hR.w t h1t ht q).2.1]
    split
    · rename_i c
      have := (((hI.d t h1t ht).2.2.2.2 q).2 ho).1 c.2
      omega
    · omega
  · rw [eo 3 (by decide) (by decide) (by decide), hR.a.2.2.2.1]; omega
  · rw [e12]
    intro a b hab hb
    rw [hin a (by omega), hin b hb]
    exact (hI.s.2 t h1t ht).2.2.1 a b hab hb
  · rw [e12]
    intro a ha
    have hm : iN M t a ∈ inL M t := inL_mem.mpr ⟨a, ha, rfl⟩
    have hb := inL_b hI.s h1t ht hm
    rw [hin a ha, eo 22 (by decide) (by decide) (by decide), (hR.d _ hb.1 (by omega)).2.2.2.2.2.2]
    exact srv_pos hI h1t ht ho hm
  · rw [eL 13 (by decide), e16, vu_s]
    exact h13.elim Or.inl (fun q => Or.inr (by omega))
  · rw [eL 13 (by decide)]; exact h13l
  · intro c hc hm
    rw [eL c (by omega)] at hm
    by_cases h0 : c = 0
    · subst h0
      have q := (hR.p.2.1 t).mp hm
      exact ⟨by rw [hW, hw9]; exact q.2.1, fun z => absurd rfl z⟩
    · rw [(hR.p.1 c (by omega) hc).1] at hm
      have q := (hI.p c hc).2.2 t hm
      refine ⟨by rw [hW, hw9]; exact q.2.2.1, fun _ => ?_⟩
      rw [eo 31 (by decide) (by decide) (by decide), (hR.w t h1t ht q.2.2.1).2.1, if_pos ⟨ho, q.2.2.2.2.1⟩]
      exact q.2.2.2.2.2
theorem Rel.end (hR : Rel n k F K L M) (hI : Inv n k w x y M) (hx : x ≤ 1) (hy : y ≤ 1) (h1t : 1 ≤ t) (ht : t ≤ n) (ho : nN M 8 t = 0) (hh : 1 ≤ h ∧ h ≤ 3) (E : EndE M M' t h)
    (o1 : ∀ f, f ≠ 16 → f ≠ 17 → f ≠ 18 → K1 f = K f) (e16 : nN K1 16 = va_up (nN K 16) t (h + 4)) (e17 : K1 17 = va_up (K 17) t (M' 11 t)) (e18 : nN K1 18 = va_up (nN K 18) t (if h = 2 then nN M' 12 t + 1 else 0)) (EK : EndK n K1 K' t) : Rel n k F K' L M' := by
  obtain ⟨a1, a2, a3, a4, a5, a6, a7⟩ := hI.a
  have eo : ∀ f, f ≠ 16 → f ≠ 17 → f ≠ 18 → nN K1 f = nN K f := fun f p q r => nN_e (o1 f p q r)
  have el : ∀ f j, isLs f → K1 f j = K f j := fun f j hf => by rw [o1 f (by unfold isLs at hf; omega) (by unfold isLs at hf; omega) (by unfold isLs at hf; omega)]
  have eL : ∀ c, c ≤ 13 → lsL K1 c = lsL K c := fun c hc => lsL_e hc el
  have hs := hR.s t h1t ht
  have hW : isWK K1 t = isWK K t := wk_e (fun j => by rw [o1 11 (by decide) (by decide) (by decide)]) t
  have hw9 := isW_iff hR hI h1t ht
  have hinI : ∀ u, (∃ a, a < nN K1 12 t ∧ iK K1 t a = u) ↔ u ∈ inL M t := fun u => by
    rw [← in_iff hR h1t ht, eo 12 (by decide) (by decide) (by decide)]
    unfold iK
    rw [eo _ (by omega) (by omega) (by omega)]
  obtain ⟨⟨m8, m9, m10, m15, m16⟩, ⟨m50, m51, m52, m53⟩, m26, mpl, m11, mN, mf⟩ := E
  obtain ⟨⟨k3, k20, k19⟩, ⟨j1, j2, j3, j4⟩, ⟨s1, s2⟩, ⟨l0, l13⟩, ⟨w1, w0⟩, kN, kL, kf⟩ := EK
  have em : ∀ f, endF f = false → nN M' f = nN M f := fun f q => nN_e (mf f q)
  have ef : ∀ f, ekF f = false → f ≠ 16 → f ≠ 17 → f ≠ 18 → K' f = K f := fun f q a b c => (kf f q).trans (o1 f a b c)
  have e12K : ∀ u, u ≠ t → nN M' 12 u = nN M 12 u := fun u hu => by rw [nN, (m11 u hu).2]; rfl
  refine ⟨kN, kL, ?_, ?_, ?_, ?_, ?_, ?_, ?_, ?_, ?_, ?_⟩
  · obtain ⟨b1, b2, b3, b4, b5⟩ := hR.a
    refine ⟨?_, ?_, ?_, ?_, ?_⟩
    · rw [nN_e (ef 0 rfl (by decide) (by decide) (by decide))]; exact b1
    · rw [nN_e (ef 1 rfl (by decide) (by decide) (by decide))]; exact b2
    · rw [nN_e (ef 2 rfl (by decide) (by decide) (by decide)), em 0 rfl]; exact b3
    · rw [k3, m16, eo 3 (by decide) (by decide) (by decide), b4]
    · rw [nN_e (ef 5 rfl (by decide) (by decide) (by decide))]; exact b5
  · refine hR.s.cg a1 (fun f hf => ?_) (fun f hf => ?_)
    · have := of_decide_eq_true hf
      exact ef f (decide_eq_false (by omega)) (by omega) (by omega) (by omega)
    · refine mf f ?_
      have := of_decide_eq_true hf
      rcases this with ⟨q1, q2⟩ | rfl | rfl | rfl | rfl
      · have : f = 2 ∨ f = 3 ∨ f = 4 ∨ f = 5 ∨ f = 6 ∨ f = 7 := by omega
        rcases this with rfl | rfl | rfl | rfl | rfl | rfl <;> rfl
      all_goals rfl
  · intro u h1 h2
    obtain ⟨d1, d2, d3, d4, d5, d6, d7⟩ := hR.d u h1 h2
    have sv := srv_end hI mN (mf 1 rfl) (mf 3 rfl) (mf 4 rfl) m8 hh.1 h1t ht ho (s := u) h2
    have c22 : nN K' 22 u = srvN M' u := by
      by_cases hm : u ∈ inL M t
      · have q1 := s1 u ((hinI u).mpr hm)
        have q2 := sv.1 hm
        rw [eo 22 (by decide) (by decide) (by decide), d7] at q1
        omega
      · rw [s2 u (fun z => hm ((hinI u).mp z)), eo 22 (by decide) (by decide) (by decide), d7, sv.2 hm]
    rw [c22, nN_e (kf 16 rfl), kf 17 rfl, nN_e (kf 18 rfl), k19, k20, ef 21 rfl (by decide) (by decide) (by decide), e16, e17, e18, em 2 rfl, m8, em 19 rfl, m9, m10, mf 14 rfl, eo 19 (by decide) (by decide) (by decide), eo 20 (by decide) (by decide) (by decide), eo 2 (by decide) (by decide) (by decide), eo 3 (by decide) (by decide) (by decide), hR.a.2.2.1, hR.a.2.2.2.1]
    by_cases hu : u = t
    · subst hu
      rw [vu_s, vu_s, vu_s, vu_s, vu_s, vu_s, vu_s, vu_s]
      refine ⟨?_, rfl, rfl, rfl, rfl, d6, rfl⟩
      unfold stt; rw [if_neg (by omega)]
    · rw [vu_n hu, vu_n hu, vu_n hu, vu_n hu, vu_n hu, vu_n hu, vu_n hu, vu_n hu, e12K u hu, (m11 u hu).1]
      exact ⟨d1, d2, d3, d4, d5, d6, rfl⟩
  · intro u h1 h2 h9
    rw [em 2 rfl] at h9
    have hq := hR.w u h1 h2 h9
    obtain ⟨⟨q1, q2, q3, q4, q5⟩, q6, q7, q8⟩ := hq
    have r20 : nN K' (2000 + u) = nN K (2000 + u) := nN_e (ef _ (decide_eq_false (by omega)) (by omega) (by omega) (by omega))
    have r30 : nN K' (3000 + u) = nN K (3000 + u) := nN_e (ef _ (decide_eq_false (by omega)) (by omega) (by omega) (by omega))
    unfold qW1
    rw [r20, r30, nN_e (ef 26 rfl (by decide) (by decide) (by decide)), nN_e (ef 27 rfl (by decide) (by decide) (by decide)), nN_e (ef 30 rfl (by decide) (by decide) (by decide)), nN_e (ef 32 rfl (by decide) (by decide) (by decide)), nN_e (ef 24 rfl (by decide) (by decide) (by decide)), nN_e (ef 25 rfl (by decide) (by decide) (by decide)), nN_e (ef 28 rfl (by decide) (by decide) (by decide)), em 22 rfl, em 21 rfl, em 25 rfl, em 27 rfl, m8, em 19 rfl, em 20 rfl, em 23 rfl, em 24 rfl, em 28 rfl, em 31 rfl]
    by_cases hu : u = t
    · subst hu
      have hWt : isWK K1 u = true := by rw [hW, hw9]; exact h9
      obtain ⟨w31, w29⟩ := w1 hWt
      rw [w31, w29, m26, vu_s, vu_s]
      refine ⟨⟨q1, q2, ?_, q4, q5⟩, by rw [if_neg (by omega)], fun z => by omega, q8⟩
      rw [eo 31 (by decide) (by decide) (by decide), eo 29 (by decide) (by decide) (by decide), e16, vu_s]
      by_cases hat : nN M 19 u = 2 ∨ nN M 19 u = 3
      · have hck := (((hI.d u h1 h2).2.2.2.2 h9).2 ho).1 hat
        rw [if_pos ⟨ho, hat⟩] at q6
        rw [if_neg (by omega), if_pos ((atC_iff hI.nt u).mpr ⟨h9, hat⟩), vu_s, vu_s]
        by_cases h3 : h = 3
        · rw [if_pos (by omega), if_pos h3]
        · rw [if_neg (by omega), if_neg h3]
      · rw [if_neg (fun z => hat z.2)] at q6
        rw [if_pos q6, if_neg (fun z => hat ((atC_iff hI.nt u).mp z).2)]
        exact q3
    · have e31 : nN K' 31 u = nN K 31 u := by
        cases hWt : isWK K1 t with
        | true => rw [(w1 hWt).1, vu_n hu, eo 31 (by decide) (by decide) (by decide)]
        | false => rw [(w0 hWt).1, eo 31 (by decide) (by decide) (by decide)]
      have e29 : nN K' 29 u = nN K 29 u := by
        cases hWt : isWK K1 t with
        | true =>
          rw [(w1 hWt).2]
          split
          · rw [eo 29 (by decide) (by decide) (by decide)]
          · rw [vu_n hu, eo 29 (by decide) (by decide) (by decide)]
        | false => rw [(w0 hWt).2, eo 29 (by decide) (by decide) (by decide)]
      have f26 : nN M' 26 u = nN M 26 u := by
        rw [m26]; split
        · rw [vu_n hu]
        · rfl
      rw [e31, e29, f26, vu_n hu]
      exact ⟨⟨q1, q2, q3, q4, q5⟩, q6, q7, q8⟩
  · refine hR.f.cg (fun f hf => ?_) (fun f hf => ?_)
    · have := of_decide_eq_true hf
      exact ef f (decide_eq_false (by omega)) (by omega) (by omega) (by omega)
    · refine mf f ?_
      have := of_decide_eq_true hf
      have : f = 33 ∨ f = 34 ∨ f = 35 ∨ f = 36 ∨ f = 37 ∨ f = 38 ∨ f = 39 := by omega
      rcases this with rfl | rfl | rfl | rfl | rfl | rfl | rfl <;> rfl
  · obtain ⟨p1, p2, p3⟩ := hR.p
    refine ⟨fun c h1 h2 => ⟨?_, ?_⟩, fun u => ?_, fun c h1 h2 => ?_⟩
    · rw [l0 c h2, eL c (by omega), (p1 c h1 h2).1, mpl c h2]
    · rw [nN_e (ef 60 rfl (by decide) (by decide) (by decide))]; exact (p1 c h1 h2).2
    · rw [l0 0 (by decide), eL 0 (by decide), (hR.la 0 (by decide)).2.1.mem_erase_iff, p2 u, em 2 rfl, m8, em 19 rfl]
      by_cases hu : u = t
      · subst hu
        rw [vu_s]
        exact ⟨fun z => absurd rfl z.1, fun z => by omega⟩
      · rw [vu_n hu]
        exact ⟨fun z => z.2, fun z => ⟨hu, z⟩⟩
    · rw [ef 61 rfl (by decide) (by decide) (by decide), ef 62 rfl (by decide) (by decide) (by decide), mf 48 rfl, mf 49 rfl]
      exact p3 c h1 h2
  · refine hR.l.cg (fun f hf => ?_) (fun f hf => ?_)
    · have := of_decide_eq_true hf
      exact ef f (decide_eq_false (by omega)) (by omega) (by omega) (by omega)
    · refine mf f ?_
      have := of_decide_eq_true hf
      have : f = 41 ∨ f = 42 ∨ f = 43 ∨ f = 44 := by omega
      rcases this with rfl | rfl | rfl | rfl <;> rfl
  · obtain ⟨g1, g2, g3⟩ := hR.j
    have c80 := eo 80 (by decide) (by decide) (by decide)
    have c82 := eo 82 (by decide) (by decide) (by decide)
    have c81 := eo 81 (by decide) (by decide) (by decide)
    rw [c80] at j1 j2 j3 j4
    rw [c82] at j3
    rw [eo 2 (by decide) (by decide) (by decide), e16, vu_s] at j2
    refine ⟨by rw [j1, m53, g1], ⟨by rw [j1]; omega, j4.2.1, j4.2.2⟩, fun j hj => ?_⟩
    rw [m53] at hj
    rw [m50, m51, m52]
    by_cases hj2 : j = nN M 53 0
    · subst hj2
      rw [g1] at j2
      rw [vu_s, vu_s, vu_s, j2.1, j2.2.1, j2.2.2, hR.a.2.2.1]
      exact ⟨rfl, rfl, by omega⟩
    · rw [vu_n hj2, vu_n hj2, vu_n hj2, j3 _ (by omega), j3 _ (by omega), j3 _ (by omega)]
      exact g3 j (by omega)
  · intro u h1 h2 hou
    rw [m8] at hou
    have hu : u ≠ t := fun z => by subst z; rw [vu_s] at hou; omega
    rw [vu_n hu] at hou
    rw [mf 14 rfl, em 2 rfl, em 32 rfl, em 19 rfl, em 23 rfl, em 28 rfl, em 27 rfl]
    exact hR.g u h1 h2 hou
  · exact hR.hh.cg (mf 3 rfl) (mf 4 rfl)
end RENS
