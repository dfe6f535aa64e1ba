/-! how a work stands is changed: the relation -/
section RWKS
variable {n k F w x y : Nat} {K K1 K' : MS} {L L' : KL} {M M1 M' : MS} {t h : Nat}
theorem qD.wk (hq : qD n K M) (e16 : nN K' 16 = va_up (nN K 16) t h) (eK : ∀ f, 17 ≤ f → f ≤ 22 → K' f = K f) (e19 : nN M' 19 = va_up (nN M 19) t h) (eM : ∀ f, mD f = true → f ≠ 19 → M' f = M f) (h9 : 9 ≤ nN M 2 t) (ho : nN M 8 t = 0) : qD n K' M' := by
  intro u h1 h2
  have d := hq u h1 h2
  rw [srvN_e (eM 1 rfl (by decide)) (eM 3 rfl (by decide)) (eM 4 rfl (by decide)) (eM 8 rfl (by decide)), e16, eK 17 (by decide) (by decide), nN_e (eK 18 (by decide) (by decide)), nN_e (eK 19 (by decide) (by decide)), nN_e (eK 20 (by decide) (by decide)), eK 21 (by decide) (by decide), nN_e (eK 22 (by decide) (by decide)), nN_e (eM 2 rfl (by decide)), nN_e (eM 8 rfl (by decide)), e19, eM 11 rfl (by decide), nN_e (eM 12 rfl (by decide)), nN_e (eM 9 rfl (by decide)), nN_e (eM 10 rfl (by decide)), eM 14 rfl (by decide)]
  refine ⟨?_, d.2⟩
  by_cases hu : u = t
  · subst hu; rw [vu_s, vu_s]; unfold stt; rw [if_pos ho, if_neg (by omega)]
  · rw [vu_n hu, vu_n hu]; exact d.1
theorem qW.wk (hI : Inv n k w x y M) (h : qW n K M) (eK : ∀ f u, 24 ≤ f → f ≤ 32 → u ≠ t → nN K' f u = nN K f u) (eR : ∀ u, u ≠ t → u ≤ n → nN K' (2000 + u) = nN K (2000 + u) ∧ nN K' (3000 + u) = nN K (3000 + u)) (eM : ∀ f u, f = 2 ∨ f = 8 ∨ (19 ≤ f ∧ f ≤ 27) → u ≠ t → nN M' f u = nN M f u) (e28 : ∀ u j, u ≠ t → j < 6 → nN M' 28 (6 * u + j) = nN M 28 (6 * u + j) ∧ nN M' 31 (6 * u + j) = nN M 31 (6 * u + j)) (ht : 1 ≤ t → t ≤ n → 9 ≤ nN M' 2 t → qW1 K' M' t) : qW n K' M' := by
  intro u h1 h2 h9
  by_cases hu : u = t
  · subst hu; exact ht h1 h2 h9
  · rw [eM 2 u (by decide) hu] at h9
    obtain ⟨⟨q1, q2, q3, q4, q5⟩, q6, q7, q8⟩ := h u h1 h2 h9
    have d := hI.d u h1 h2
    have s := (hI.s.2 u h1 h2).2.2.2.2.2.2.1
    have r := eR u hu h2
    unfold qW1
    rw [r.1, r.2, eK 26 u (by decide) (by decide) hu, eK 27 u (by decide) (by decide) hu, eK 29 u (by decide) (by decide) hu, eK 30 u (by decide) (by decide) hu, eK 32 u (by decide) (by decide) hu, eK 31 u (by decide) (by decide) hu, eK 24 u (by decide) (by decide) hu, eK 25 u (by decide) (by decide) hu, eK 28 u (by decide) (by decide) hu, eM 22 u (by decide) hu, eM 21 u (by decide) hu, eM 26 u (by decide) hu, eM 25 u (by decide) hu, eM 27 u (by decide) hu, eM 8 u (by decide) hu, eM 19 u (by decide) hu, eM 20 u (by decide) hu, eM 23 u (by decide) hu, eM 24 u (by decide) hu]
    refine ⟨⟨q1, q2, q3, q4, q5⟩, q6, fun z => ⟨(q7 z).1, (q7 z).2.1, fun z4 => ?_⟩, fun j hj => ?_⟩
    · have hp := ((d.2.2.2.2 h9).2 z).2.2.2.1 z4
      have := e28 u (nN M 27 u - 1) hu (by have := d.2.1; omega)
      rw [show 6 * u + (nN M 27 u - 1) = 6 * u + nN M 27 u - 1 by omega] at this
      rw [this.1]; exact (q7 z).2.2 z4
    · have := e28 u j hu (by have := d.2.1; omega)
      rw [this.1, this.2]; exact q8 j hj
theorem qG.wk (hI : Inv n k w x y M) (h : qG n L M) (hL : ∀ v, mkB L v = true → mkB L' v = true) (e14 : M' 14 = M 14) (eM : ∀ f u, f = 2 ∨ f = 8 ∨ f = 19 ∨ f = 23 ∨ f = 27 ∨ f = 32 → u ≠ t → nN M' f u = nN M f u) (e2 : nN M' 2 t = nN M 2 t) (e8 : nN M' 8 t = nN M 8 t) (e32 : nN M' 32 t = nN M 32 t) (e28 : ∀ u j, u ≠ t → j < 6 → nN M' 28 (6 * u + j) = nN M 28 (6 * u + j)) (ht : 1 ≤ t → t ≤ n → nN M 8 t = 0 → 9 ≤ nN M 2 t → (nN M' 19 t = 2 → nN M' 23 t ≤ 10000 → mkB L' (nN M' 23 t) = true) ∧ (nN M' 19 t = 4 → nN M' 28 (6 * t + nN M' 27 t - 1) ≤ 10000 → mkB L' (nN M' 28 (6 * t + nN M' 27 t - 1)) = true)) : qG n L' M' := by
  intro u h1 h2 ho
  rw [e14]
  by_cases hu : u = t
  · subst hu
    rw [e8] at ho
    obtain ⟨g1, g2, g3⟩ := h u h1 h2 ho
    rw [e2, e32]
    exact ⟨fun v v1 v2 => hL v (g1 v v1 v2), fun z1 z2 => hL _ (g2 z1 z2), fun z => ht h1 h2 ho z⟩
  · rw [eM 8 u (by decide) hu] at ho
    obtain ⟨g1, g2, g3⟩ := h u h1 h2 ho
    have d := hI.d u h1 h2
    have s := (hI.s.2 u h1 h2).2.2.2.2.2.2.1
    rw [eM 2 u (by decide) hu, eM 32 u (by decide) hu, eM 19 u (by decide) hu, eM 23 u (by decide) hu, eM 27 u (by decide) hu]
    refine ⟨fun v v1 v2 => hL v (g1 v v1 v2), fun z1 z2 => hL _ (g2 z1 z2), fun z9 => ⟨fun z1 z2 => hL _ ((g3 z9).1 z1 z2), fun z1 z2 => ?_⟩⟩
    have hp := ((d.2.2.2.2 z9).2 ho).2.2.2.1 z1
    have := e28 u (nN M 27 u - 1) hu (by have := d.2.1; omega)
    rw [show 6 * u + (nN M 27 u - 1) = 6 * u + nN M 27 u - 1 by omega] at this
    rw [this] at z2 ⊢
    exact hL _ ((g3 z9).2 z1 z2)
/-- made ready -/
theorem rdy_f {f : Nat} (h16 : f ≠ 16) (h24 : f ≠ 24) (hf : f < 63 ∨ (67 < f ∧ f < 4000) ∨ 10000 ≤ f) : rdyK K t f = K f := by
  unfold rdyK
  rw [ls_fe (by decide) hf (add_e 0 t)]
  unfold rdyA
  rw [up2_f h24, up2_f h16]
theorem Rel.rdy (hR : Rel n k F K L M) (hI : Inv n k w 0 0 M) (h1t : 1 ≤ t) (ht : t ≤ n) (ho : nN M 8 t = 0) (h9 : 9 ≤ nN M 2 t) (hw : nN M 19 t = 0 ∨ nN M 19 t = 4) : Rel n k F (rdyK K t) L (up2 (up2 M 19 t (nI 1)) 20 t (M 0 0)) ∧ lsL (rdyK K t) 13 = lsL K 13 := by
  have a1 := hI.a.1
  have hnm : t ∉ lsL K 0 := fun q => by have := (hR.p.2.1 t).mp q; omega
  have hlen : (lsL K 0).length ≤ n := nd_len (hR.la 0 (by decide)).2.1 (fun u hu => ((hR.p.2.1 u).mp hu).1)
  have elA : ∀ f j, isLs f → rdyA K t f j = K f j := rdyA_ls K t
  have lA : ∀ c, c ≤ 13 → lsL (rdyA K t) c = lsL K c := fun c hc => lsL_e hc elA
  have LA1 : LA (rdyA K t) n := hR.la.cg elA
  have l0 : lsL (rdyK K t) 0 = lsL K 0 ++ [t] := by
    unfold rdyK
    rw [add_L (LA1 0 (by decide)).1 (by omega) (by rw [lA 0 (by decide)]; omega) ⟨h1t, ht⟩, lA 0 (by decide)]
  have lo : ∀ c, c ≤ 13 → c ≠ 0 → lsL (rdyK K t) c = lsL K c := fun c hc h0 => by
    unfold rdyK
    rw [(oth_L (n := n) (i := 0) hc (by decide) h0 (add_e 0 t)).1, lA c hc]
  have LA2 : LA (rdyK K t) n := LA1.add (by omega) (by decide) ⟨h1t, ht⟩ (by rw [lA 0 (by decide)]; exact hnm) (by rw [lA 0 (by decide)]; omega)
  have eA : rdyA K t = up2 (up2 K 16 t (nI 1)) 24 t (nI (nN K 2 0)) := by unfold rdyA; rw [← hR.nt 2 0 rfl]
  have N1 : NT exK (rdyA K t) := by rw [eA]; exact (hR.nt.upn (by decide)).upn (nN_lt _ _ _)
  have N2 : NT exK (rdyK K t) := N1.ls (by decide) (add_e 0 t)
  have e16 : nN (rdyK K t) 16 = va_up (nN K 16) t 1 := by
    unfold rdyK; rw [nN_e (ls_fe (by decide) (by decide) (add_e 0 t)), eA, nN_f (by decide), nN_sn (by decide)]
  have e24 : nN (rdyK K t) 24 = va_up (nN K 24) t (nN K 2 0) := by
    unfold rdyK; rw [nN_e (ls_fe (by decide) (by decide) (add_e 0 t)), eA, nN_sn (nN_lt _ _ _), nN_f (by decide)]
  have mo : ∀ f, f ≠ 19 → f ≠ 20 → up2 (up2 M 19 t (nI 1)) 20 t (M 0 0) f = M f := fun f q1 q2 => by rw [up2_f q2, up2_f q1]
  have m19 : nN (up2 (up2 M 19 t (nI 1)) 20 t (M 0 0)) 19 = va_up (nN M 19) t 1 := by rw [nN_f (by decide), nN_sn (by decide)]
  have m20 : nN (up2 (up2 M 19 t (nI 1)) 20 t (M 0 0)) 20 = va_up (nN M 20) t (nN M 0 0) := by rw [nN_s, nN_f (by decide)]; rfl
  generalize hM' : up2 (up2 M 19 t (nI 1)) 20 t (M 0 0) = M' at mo m19 m20
  have me : ∀ f, f ≠ 19 → f ≠ 20 → nN M' f = nN M f := fun f q1 q2 => nN_e (mo f q1 q2)
  refine ⟨⟨N2, LA2, ?_, ?_, ?_, ?_, ?_, ?_, ?_, ?_, ?_, ?_⟩, lo 13 (by decide) (by decide)⟩
  · exact hR.a.cg (fun f hf => by have := of_decide_eq_true hf; exact rdy_f (by omega) (by omega) (by omega)) (fun f hf => by have := of_decide_eq_true hf; exact mo f (by omega) (by omega))
  · exact hR.s.cg a1 (fun f hf => by have := of_decide_eq_true hf; exact rdy_f (by omega) (by omega) (by omega)) (fun f hf => by have := of_decide_eq_true hf; exact mo f (by omega) (by omega))
  · exact hR.d.wk e16 (fun f f1 f2 => rdy_f (by omega) (by omega) (by omega)) m19 (fun f hf hne => by have := of_decide_eq_true hf; exact mo f hne (by omega)) h9 ho
  · refine hR.w.wk (t := t) hI (fun f u f1 f2 hu => ?_) (fun u hu hun => ⟨?_, ?_⟩) (fun f u hf hu => ?_) (fun u j hu hj => ⟨by rw [me 28 (by decide) (by decide)], by rw [me 31 (by decide) (by decide)]⟩) (fun _ _ _ => ?_)
    · by_cases h24 : f = 24
      · subst h24; rw [e24, vu_n hu]
      · rw [nN_e (rdy_f (by omega) h24 (by omega))]
    · exact nN_e (rdy_f (by omega) (by omega) (by omega))
    · exact nN_e (rdy_f (by omega) (by omega) (by omega))
    · by_cases h19 : f = 19
      · subst h19; rw [m19, vu_n hu]
      · by_cases h20 : f = 20
        · subst h20; rw [m20, vu_n hu]
        · rw [me f h19 h20]
    · obtain ⟨⟨q1, q2, q3, q4, q5⟩, q6, q7, q8⟩ := hR.w t h1t ht h9
      unfold qW1
      rw [nN_e (rdy_f (f := 26) (by decide) (by decide) (by decide)), nN_e (rdy_f (f := 27) (by decide) (by decide) (by decide)), nN_e (rdy_f (f := 29) (by decide) (by decide) (by decide)), nN_e (rdy_f (f := 30) (by decide) (by decide) (by decide)), nN_e (rdy_f (f := 32) (by decide) (by decide) (by decide)), nN_e (rdy_f (f := 31) (by decide) (by decide) (by decide)), e24, nN_e (rdy_f (f := 2000 + t) (by omega) (by omega) (by omega)), nN_e (rdy_f (f := 3000 + t) (by omega) (by omega) (by omega)), me 22 (by decide) (by decide), me 21 (by decide) (by decide), me 26 (by decide) (by decide), me 25 (by decide) (by decide), me 27 (by decide) (by decide), me 8 (by decide) (by decide), m19, m20, me 28 (by decide) (by decide), me 31 (by decide) (by decide), vu_s, vu_s, vu_s]
      refine ⟨⟨q1, q2, q3, q4, q5⟩, ?_, fun _ => ⟨fun _ => hR.a.2.2.1, fun z => by omega, fun z => by omega⟩, q8⟩
      rw [q6, if_neg (by omega), if_neg (by omega)]
  · exact hR.f.cg (fun f hf => by have := of_decide_eq_true hf; exact rdy_f (by omega) (by omega) (by omega)) (fun f hf => by have := of_decide_eq_true hf; exact mo f (by omega) (by omega))
  · obtain ⟨p1, p2, p3⟩ := hR.p
    refine ⟨fun c h1 h2 => ⟨?_, ?_⟩, fun u => ?_, fun c h1 h2 => ?_⟩
    · rw [lo c (by omega) (by omega), pl_e (mo 46 (by decide) (by decide)) (mo 47 (by decide) (by decide))]; exact (p1 c h1 h2).1
    · rw [nN_e (rdy_f (f := 60) (by decide) (by decide) (by decide))]; exact (p1 c h1 h2).2
    · rw [l0, List.mem_append, List.mem_singleton, p2 u, me 2 (by decide) (by decide), me 8 (by decide) (by decide), m19]
      by_cases hu : u = t
      · subst hu; rw [vu_s]; exact ⟨fun _ => ⟨⟨h1t, ht⟩, h9, ho, rfl⟩, fun _ => Or.inr rfl⟩
      · rw [vu_n hu]; exact ⟨fun z => z.elim id (fun z => absurd z hu), Or.inl⟩
    · rw [rdy_f (f := 61) (by decide) (by decide) (by decide), rdy_f (f := 62) (by decide) (by decide) (by decide), mo 48 (by decide) (by decide), mo 49 (by decide) (by decide)]; exact p3 c h1 h2
  · exact hR.l.cg (fun f hf => by have := of_decide_eq_true hf; exact rdy_f (by omega) (by omega) (by omega)) (fun f hf => by have := of_decide_eq_true hf; exact mo f (by omega) (by omega))
  · exact hR.j.cg (fun f hf => by have := of_decide_eq_true hf; exact rdy_f (by omega) (by omega) (by omega)) (fun f hf => by have := of_decide_eq_true hf; exact mo f (by omega) (by omega))
  · refine hR.g.wk (t := t) hI (fun _ z => z) (mo 14 (by decide) (by decide)) (fun f u hf hu => ?_) (by rw [me 2 (by decide) (by decide)]) (by rw [me 8 (by decide) (by decide)]) (by rw [me 32 (by decide) (by decide)]) (fun u j _ _ => by rw [me 28 (by decide) (by decide)]) (fun _ _ _ _ => ?_)
    · by_cases h19 : f = 19
      · subst h19; rw [m19, vu_n hu]
      · rw [me f h19 (by omega)]
    · rw [m19, vu_s]; exact ⟨fun z => by omega, fun z => by omega⟩
  · exact hR.hh.cg (mo 3 (by decide) (by decide)) (mo 4 (by decide) (by decide))
end RWKS
