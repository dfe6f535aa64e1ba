/-! waiting, going on, pausing: in the relation -/
section WSRS
variable {n k F w x y : Nat} {K K1 K' : MS} {L L' : KL} {M M1 M' : MS} {t h : Nat}
/-- fields of M that the relation does not read -/
theorem Rel.mcg (hR : Rel n k F K L M) (hn : n ≤ 200) (o : ∀ f, f < 54 → f ≠ 13 → f ≠ 17 → M' f = M f) : Rel n k F K L M' := by
  obtain ⟨r1, r2, r3, r4, r5, r6, r7, r8, r9, r10, r11, r12⟩ := hR
  exact ⟨r1, r2, r3.cg (fun _ _ => rfl) (fun f hf => by have := of_decide_eq_true hf; exact o f (by omega) (by omega) (by omega)), r4.cg hn (fun _ _ => rfl) (fun f hf => by have := of_decide_eq_true hf; exact o f (by omega) (by omega) (by omega)), r5.cg (fun _ _ => rfl) (fun f hf => by have := of_decide_eq_true hf; exact o f (by omega) (by omega) (by omega)), r6.cg hn (fun _ _ => rfl) (fun f hf => by have := of_decide_eq_true hf; exact o f (by omega) (by omega) (by omega)), r7.cg (fun _ _ => rfl) (fun f hf => by have := of_decide_eq_true hf; exact o f (by omega) (by omega) (by omega)), r8.cg (fun _ _ => rfl) (fun _ _ => rfl) (fun f hf => by have := of_decide_eq_true hf; exact o f (by omega) (by omega) (by omega)), r9.cg (fun _ _ => rfl) (fun f hf => by have := of_decide_eq_true hf; exact o f (by omega) (by omega) (by omega)), r10.cg (fun _ _ => rfl) (fun f hf => by have := of_decide_eq_true hf; exact o f (by omega) (by omega) (by omega)), r11.cg (fun f hf => by have := of_decide_eq_true hf; exact o f (by omega) (by omega) (by omega)), r12.cg (o 3 (by decide) (by decide) (by decide)) (o 4 (by decide) (by decide) (by decide))⟩
/-- a note alone -/
theorem Rel.note {ev : Nat} (hR : Rel n k F K L M) (hI : Inv n k w x y M) (hx : x ≤ 1) (hy : y ≤ 1) (h1t : 1 ≤ t) (ht : t ≤ n) (hev : ev ≤ 7) (lg : lgE M M' t ev) (mf : ∀ f, noF f = false → M' f = M f) : Rel n k F (jrnK K (K 2 0) (K 10 t) (nI ev)) L M' ∧ lsL (jrnK K (K 2 0) (K 10 t) (nI ev)) 13 = lsL K 13 ∧ jrE K (jrnK K (K 2 0) (K 10 t) (nI ev)) (nN M 0 0) t ev := by
  have bd := hI.bd hx hy
  obtain ⟨a1, a2, a3, a4, a5, a6, a7⟩ := hI.a
  have k2 : nN K 2 0 = nN M 0 0 := hR.a.2.2.1
  rw [hR.nt 2 0 rfl, k2, hR.nt 10 t rfl, (hR.s t h1t ht).1]
  obtain ⟨jE, NK⟩ := jrn_E (K := K) (v := nN M 0 0) (s := t) (ev := ev) (hR.jr hI hx hy) (by rw [hR.j.1]; omega) hR.nt (by omega) (by omega) (by omega)
  generalize hK' : jrnK K (nI (nN M 0 0)) (nI t) (nI ev) = K' at jE NK
  have ko : ∀ f, f ≠ 80 → f ≠ 81 → f ≠ 82 → K' f = K f := fun f h1 h2 h3 => funext (fun j => by rw [← hK']; exact jrn_o h3 (fun e => h1 e.1) (fun e => h2 e.1))
  have el : ∀ f j, isLs f → K' f j = K f j := fun f j hf => by rw [ko f (by unfold isLs at hf; omega) (by unfold isLs at hf; omega) (by unfold isLs at hf; omega)]
  have mo : ∀ (p : Nat → Bool), (∀ f, p f = true → ¬ (50 ≤ f ∧ f ≤ 53)) → ∀ f, p f = true → M' f = M f := fun p hp f hf => mf f (by
    have := hp f hf
    cases hq : noF f
    · rfl
    · unfold noF at hq; split at hq <;> first | omega | cases hq)
  have kp : ∀ (p : Nat → Bool), (∀ f, p f = true → ¬ (80 ≤ f ∧ f ≤ 82)) → ∀ f, p f = true → K' f = K f := fun p hp f hf => by have := hp f hf; exact ko f (by omega) (by omega) (by omega)
  refine ⟨⟨NK, hR.la.cg el, ?_, ?_, ?_, ?_, ?_, ?_, ?_, hR.j.lg jE lg rfl, ?_, hR.hh.cg (mf 3 rfl) (mf 4 rfl)⟩, lsL_e (by decide) el, jE⟩
  · exact hR.a.cg (kp _ (fun f hf => by have := of_decide_eq_true hf; omega)) (mo _ (fun f hf => by have := of_decide_eq_true hf; omega))
  · exact hR.s.cg a1 (kp _ (fun f hf => by have := of_decide_eq_true hf; omega)) (mo _ (fun f hf => by have := of_decide_eq_true hf; omega))
  · exact hR.d.cg (kp _ (fun f hf => by have := of_decide_eq_true hf; omega)) (mo _ (fun f hf => by have := of_decide_eq_true hf; omega))
  · exact hR.w.cg a1 (kp _ (fun f hf => by have := of_decide_eq_true hf; omega)) (mo _ (fun f hf => by have := of_decide_eq_true hf; omega))
  · exact hR.f.cg (fun f hf => ko f (by have := of_decide_eq_true hf; omega) (by have := of_decide_eq_true hf; omega) (by have := of_decide_eq_true hf; omega)) (mo _ (fun f hf => by have := of_decide_eq_true hf; omega))
  · exact hR.p.cg (fun c hc => lsL_e (by omega) el) (kp _ (fun f hf => by have := of_decide_eq_true hf; omega)) (mo _ (fun f hf => by have := of_decide_eq_true hf; omega))
  · exact hR.l.cg (kp _ (fun f hf => by have := of_decide_eq_true hf; omega)) (mo _ (fun f hf => by have := of_decide_eq_true hf; omega))
  · exact hR.g.cg (mo _ (fun f hf => by have := of_decide_eq_true hf; omega))
/-- the state of a work alone: 2 or 3 -/
theorem Rel.st (hR : Rel n k F K L M) (hI : Inv n k w x y M) (h1t : 1 ≤ t) (ht : t ≤ n) (ho : nN M 8 t = 0) (h9 : 9 ≤ nN M 2 t) (hw : nN M 19 t = 2 ∨ nN M 19 t = 3) {v O pt : Nat} {a28 : Nat} (hv : v = 2 ∨ v = 3) (N' : NT exK K') (e16 : nN K' 16 = va_up (nN K 16) t v) (e25 : nN K' 25 = va_up (nN K 25) t O) (e28 : nN K' 28 = va_up (nN K 28) t a28) (ko : ∀ f, f ≠ 16 → f ≠ 25 → f ≠ 28 → K' f = K f)
    (m19 : nN M' 19 = va_up (nN M 19) t v) (m23 : nN M' 23 = va_up (nN M 23) t O) (m24 : nN M' 24 = va_up (nN M 24) t pt) (mo : ∀ f, f ≠ 19 → f ≠ 23 → f ≠ 24 → M' f = M f) (hp : v = 2 → (a28 ≠ 0 ↔ pt = 1)) (hL : ∀ u, mkB L u = true → mkB L' u = true) (hL2 : v = 2 → O ≤ 10000 → mkB L' O = true) (hH : qH n L' M) : Rel n k F K' L' M' := by
  have a1 := hI.a.1
  have el : ∀ f j, isLs f → K' f j = K f j := fun f j hf => by rw [ko f (by unfold isLs at hf; omega) (by unfold isLs at hf; omega) (by unfold isLs at hf; omega)]
  have mo1 : ∀ f, f ≠ 19 → f ≠ 23 → f ≠ 24 → nN M' f = nN M f := fun f a b c => nN_e (mo f a b c)
  have ke : ∀ f, f ≠ 16 → f ≠ 25 → f ≠ 28 → nN K' f = nN K f := fun f a b c => nN_e (ko f a b c)
  refine ⟨N', hR.la.cg el, ?_, ?_, ?_, ?_, ?_, ?_, ?_, ?_, ?_, hH.cg (mo 3 (by decide) (by decide) (by decide)) (mo 4 (by decide) (by decide) (by decide))⟩
  · exact hR.a.cg (fun f hf => by have := of_decide_eq_true hf; exact ko f (by omega) (by omega) (by omega)) (fun f hf => by have := of_decide_eq_true hf; exact mo f (by omega) (by omega) (by omega))
  · exact hR.s.cg a1 (fun f hf => by have := of_decide_eq_true hf; exact ko f (by omega) (by omega) (by omega)) (fun f hf => by have := of_decide_eq_true hf; exact mo f (by omega) (by omega) (by omega))
  · exact hR.d.wk e16 (fun f f1 f2 => ko f (by omega) (by omega) (by omega)) m19 (fun f hf hne => by have := of_decide_eq_true hf; exact mo f hne (by omega) (by omega)) h9 ho
  · refine hR.w.wk (t := t) hI (fun f u f1 f2 hu => ?_) (fun u hu hun => ⟨ke _ (by omega) (by omega) (by omega), ke _ (by omega) (by omega) (by omega)⟩) (fun f u hf hu => ?_) (fun u j hu hj => ⟨by rw [mo1 28 (by decide) (by decide) (by decide)], by rw [mo1 31 (by decide) (by decide) (by decide)]⟩) (fun _ _ _ => ?_)
    · by_cases h25 : f = 25
      · subst h25; rw [e25, vu_n hu]
      · by_cases h28 : f = 28
        · subst h28; rw [e28, vu_n hu]
        · rw [ke f (by omega) h25 h28]
    · by_cases h19 : f = 19
      · subst h19; rw [m19, vu_n hu]
      · by_cases h23 : f = 23
        · subst h23; rw [m23, vu_n hu]
        · by_cases h24 : f = 24
          · subst h24; rw [m24, vu_n hu]
          · rw [mo1 f h19 h23 h24]
    · obtain ⟨⟨q1, q2, q3, q4, q5⟩, q6, q7, q8⟩ := hR.w t h1t ht h9
      unfold qW1
      rw [ke 26 (by decide) (by decide) (by decide), ke 27 (by decide) (by decide) (by decide), ke 29 (by decide) (by decide) (by decide), ke 30 (by decide) (by decide) (by decide), ke 32 (by decide) (by decide) (by decide), ke 31 (by decide) (by decide) (by decide), ke 24 (by decide) (by decide) (by decide), e25, e28, ke (2000 + t) (by omega) (by omega) (by omega), ke (3000 + t) (by omega) (by omega) (by omega), mo1 22 (by decide) (by decide) (by decide), mo1 21 (by decide) (by decide) (by decide), mo1 26 (by decide) (by decide) (by decide), mo1 25 (by decide) (by decide) (by decide), mo1 27 (by decide) (by decide) (by decide), mo1 8 (by decide) (by decide) (by decide), m19, mo1 20 (by decide) (by decide) (by decide), m23, m24, mo1 28 (by decide) (by decide) (by decide), mo1 31 (by decide) (by decide) (by decide), vu_s, vu_s, vu_s, vu_s, vu_s]
      rw [if_pos ⟨ho, hw⟩] at q6
      exact ⟨⟨q1, q2, q3, q4, q5⟩, by rw [if_pos ⟨ho, hv⟩]; exact q6, fun _ => ⟨fun z => by omega, fun z => ⟨rfl, hp z⟩, fun z => by omega⟩, q8⟩
  · exact hR.f.cg (fun f hf => by have := of_decide_eq_true hf; exact ko f (by omega) (by omega) (by omega)) (fun f hf => by have := of_decide_eq_true hf; exact mo f (by omega) (by omega) (by omega))
  · obtain ⟨p1, p2, p3⟩ := hR.p
    refine ⟨fun c h1 h2 => ⟨?_, ?_⟩, fun u => ?_, fun c h1 h2 => ?_⟩
    · rw [lsL_e (by omega) el, pl_e (mo 46 (by decide) (by decide) (by decide)) (mo 47 (by decide) (by decide) (by decide))]; exact (p1 c h1 h2).1
    · rw [ke 60 (by decide) (by decide) (by decide)]; exact (p1 c h1 h2).2
    · rw [lsL_e (by decide) el, p2 u, mo1 2 (by decide) (by decide) (by decide), mo1 8 (by decide) (by decide) (by decide), m19]
      by_cases hu : u = t
      · subst hu; rw [vu_s]; exact ⟨fun z => by omega, fun z => by omega⟩
      · rw [vu_n hu]
    · rw [ko 61 (by decide) (by decide) (by decide), ko 62 (by decide) (by decide) (by decide), mo 48 (by decide) (by decide) (by decide), mo 49 (by decide) (by decide) (by decide)]; exact p3 c h1 h2
  · exact hR.l.cg (fun f hf => by have := of_decide_eq_true hf; exact ko f (by omega) (by omega) (by omega)) (fun f hf => by have := of_decide_eq_true hf; exact mo f (by omega) (by omega) (by omega))
  · exact hR.j.cg (fun f hf => by have := of_decide_eq_true hf; exact ko f (by omega) (by omega) (by omega)) (fun f hf => by have := of_decide_eq_true hf; exact mo f (by omega) (by omega) (by omega))
  · refine hR.g.wk (t := t) hI hL (mo 14 (by decide) (by decide) (by decide)) (fun f u hf hu => ?_) (by rw [mo1 2 (by decide) (by decide) (by decide)]) (by rw [mo1 8 (by decide) (by decide) (by decide)]) (by rw [mo1 32 (by decide) (by decide) (by decide)]) (fun u j _ _ => by rw [mo1 28 (by decide) (by decide) (by decide)]) (fun _ _ _ _ => ?_)
    · by_cases h19 : f = 19
      · subst h19; rw [m19, vu_n hu]
      · by_cases h23 : f = 23
        · subst h23; rw [m23, vu_n hu]
        · rw [mo1 f h19 h23 (by omega)]
    · rw [m19, vu_s, m23, vu_s]
      exact ⟨fun z z2 => hL2 z z2, fun z => by omega⟩
theorem Rel.wait (hR : Rel n k F K L M) (hI : Inv n k w 0 0 M) (h1t : 1 ≤ t) (ht : t ≤ n) (ho : nN M 8 t = 0) (h9 : 9 ≤ nN M 2 t) (hw : nN M 19 t = 2) : Rel n k F (mtW K t) L (hlfW M t) ∧ lsL (mtW K t) 13 = lsL K 13 := by
  have hn := hI.a.1
  have bd := hI.bd (by decide) (by decide)
  have N1 : NT exK (up2 K 16 t (nI 3)) := hR.nt.upn (by decide)
  have NM1 : NT exM (up2 M 19 t (nI 3)) := hI.nt.upn (by decide)
  have R1 : Rel n k F (up2 K 16 t (nI 3)) L (up2 M 19 t (nI 3)) := hR.st hI h1t ht ho h9 (Or.inl hw) (v := 3) (O := nN K 25 t) (pt := nN M 24 t) (a28 := nN K 28 t) (Or.inr rfl) N1 (by rw [nN_sn (by decide)]) (by rw [nN_f (by decide), vu_id]) (by rw [nN_f (by decide), vu_id]) (fun f a _ _ => up2_f a) (by rw [nN_sn (by decide)]) (by rw [nN_f (by decide), (((hR.w t h1t ht h9).2.2.1 ho).2.1 hw).1, vu_id]) (by rw [nN_f (by decide), vu_id]) (fun f a _ _ => up2_f a) (fun z => by omega) (fun _ z => z) (fun z => by omega) hR.hh
  obtain ⟨a, b, c⟩ := note_nn (g := nN M 53 0) (t := t) (ev := 5) NM1 (by omega) (by omega) (by decide)
  have lg : lgE (up2 M 19 t (nI 3)) (noteM (up2 M 19 t (nI 3)) (nN M 53 0) (nI t) (nI 5)) t 5 := by
    unfold lgE; rw [nN_f (show 53 ≠ 19 by decide)]; exact a
  have I1 : Inv n k w 0 0 (hlfW M t) ∨ True := Or.inr trivial
  -- the note, over the state that waits
  have k2 : up2 K 16 t (nI 3) 2 0 = K 2 0 := by rw [up2_f (by decide)]
  have k10 : up2 K 16 t (nI 3) 10 t = K 10 t := by rw [up2_f (by decide)]
  have jk : jrOk (up2 K 16 t (nI 3)) := jrOk_e (by rw [up2_f (by decide)]) (by rw [up2_f (by decide)]) (hR.jr hI (by decide) (by decide))
  obtain ⟨jE, NK⟩ := jrn_E (K := up2 K 16 t (nI 3)) (v := nN M 0 0) (s := t) (ev := 5) jk (by rw [nN_f (by decide), hR.j.1]; omega) N1 (by have := hI.a.2.2.2.2.2.2; have := hI.a.2.2.2.1; omega) (by omega) (by decide)
  have eK : mtW K t = jrnK (up2 K 16 t (nI 3)) (nI (nN M 0 0)) (nI t) (nI 5) := by
    unfold mtW; rw [hR.nt 2 0 rfl, hR.a.2.2.1, hR.nt 10 t rfl, (hR.s t h1t ht).1]
  rw [← eK] at jE NK
  have ko : ∀ f, f ≠ 80 → f ≠ 81 → f ≠ 82 → mtW K t f = up2 K 16 t (nI 3) f := fun f h1 h2 h3 => funext (fun j => by rw [eK]; exact jrn_o h3 (fun e => h1 e.1) (fun e => h2 e.1))
  have el : ∀ f j, isLs f → mtW K t f j = up2 K 16 t (nI 3) f j := fun f j hf => by rw [ko f (by unfold isLs at hf; omega) (by unfold isLs at hf; omega) (by unfold isLs at hf; omega)]
  have mf : ∀ f, noF f = false → hlfW M t f = up2 M 19 t (nI 3) f := fun f hf => c f hf
  have mo : ∀ (p : Nat → Bool), (∀ f, p f = true → ¬ (50 ≤ f ∧ f ≤ 53)) → ∀ f, p f = true → hlfW M t f = up2 M 19 t (nI 3) f := fun p hp f hf => mf f (by
    have := hp f hf
    cases hq : noF f
    · rfl
    · unfold noF at hq; split at hq <;> first | omega | cases hq)
  have kp : ∀ (p : Nat → Bool), (∀ f, p f = true → ¬ (80 ≤ f ∧ f ≤ 82)) → ∀ f, p f = true → mtW K t f = up2 K 16 t (nI 3) f := fun p hp f hf => by have := hp f hf; exact ko f (by omega) (by omega) (by omega)
  refine ⟨⟨NK, R1.la.cg el, R1.a.cg (kp _ (fun f hf => by have := of_decide_eq_true hf; omega)) (mo _ (fun f hf => by have := of_decide_eq_true hf; omega)), R1.s.cg hn (kp _ (fun f hf => by have := of_decide_eq_true hf; omega)) (mo _ (fun f hf => by have := of_decide_eq_true hf; omega)), R1.d.cg (kp _ (fun f hf => by have := of_decide_eq_true hf; omega)) (mo _ (fun f hf => by have := of_decide_eq_true hf; omega)), R1.w.cg hn (kp _ (fun f hf => by have := of_decide_eq_true hf; omega)) (mo _ (fun f hf => by have := of_decide_eq_true hf; omega)), R1.f.cg (kp _ (fun f hf => by have := of_decide_eq_true hf; omega)) (mo _ (fun f hf => by have := of_decide_eq_true hf; omega)), R1.p.cg (fun c hc => lsL_e (by omega) el) (kp _ (fun f hf => by have := of_decide_eq_true hf; omega)) (mo _ (fun f hf => by have := of_decide_eq_true hf; omega)), R1.l.cg (kp _ (fun f hf => by have := of_decide_eq_true hf; omega)) (mo _ (fun f hf => by have := of_decide_eq_true hf; omega)), R1.j.lg jE lg (by rw [nN_f (by decide)]), R1.g.cg (mo _ (fun f hf => by have := of_decide_eq_true hf; omega)), R1.hh.cg (mf 3 rfl) (mf 4 rfl)⟩, ?_⟩
  rw [lsL_e (by decide) el, lsL_up (by decide) (by decide)]
theorem Rel.sec (hR : Rel n k F K L M) (hI : Inv n k w 0 y M) (h1t : 1 ≤ t) (ht : t ≤ n) (ho : nN M 8 t = 0) (h11 : nN M 2 t = 11) (hw : nN M 19 t = 2 ∨ nN M 19 t = 3) (E : SeE M M' t) : Rel n k F (bsK K t (K 2 0)) (mrkL L (bsO K t).toNatClampNeg) M' ∧ lsL (bsK K t (K 2 0)) 13 = lsL K 13 ∧ (∃ v, v ≤ 100000 ∧ bsO K t = nI v) := by
  have h9 : 9 ≤ nN M 2 t := by omega
  obtain ⟨a1, a2, a3, a4, a5, a6, a7⟩ := hI.a
  have h18 := (hI.s.2 t h1t ht).2.2.2.2.2.1 h9
  have k23 : nN K 23 t = nN M 18 t := ((hR.s t h1t ht).2.2.2.2.2.2 h9).1
  have k2 : nN K 2 0 = nN M 0 0 := hR.a.2.2.1
  have eO : bsO K t = nI (nN M 0 0 + nN M 18 t - nN M 18 t / 2) := by
    unfold bsO
    rw [hR.nt 2 0 rfl, hR.nt 23 t rfl, k2, k23, pk_div (by omega) (by decide) (by decide), nI_add, pk_sub (by omega)]
  obtain ⟨m19, m24, m23, mN, mf⟩ := E
  generalize hO : nN M 0 0 + nN M 18 t - nN M 18 t / 2 = O at eO m23
  have hOb : O ≤ 10060 := by omega
  have eK : bsK K t (K 2 0) = up2 (up2 (up2 K 28 t (nI 0)) 25 t (nI O)) 16 t (nI 2) := by
    unfold bsK
    have : K 2 0 + K 23 t - K 23 t / nI 2 = nI O := eO
    rw [this]
  have mo : ∀ f, f ≠ 19 → f ≠ 23 → f ≠ 24 → M' f = M f := fun f a b c => mf f (by
    cases hq : seF f
    · rfl
    · unfold seF at hq; split at hq <;> first | contradiction | cases hq)
  rw [eK, eO, nI_clamp (by omega)]
  refine ⟨hR.st hI h1t ht ho h9 hw (v := 2) (O := O) (pt := 2) (a28 := 0) (Or.inl rfl) (((hR.nt.upn (by decide)).upn (by omega)).upn (by decide)) ?_ ?_ ?_ (fun f a b c => by rw [up2_f a, up2_f b, up2_f c]) m19 m23 m24 mo (fun _ => ⟨fun z => absurd rfl z, fun z => by omega⟩) (fun v z => mrk_mk v z) (fun _ z => mrk_s z) hR.hh.mrk, ?_, O, by omega, rfl⟩
  · rw [nN_sn (by decide), nN_f (by decide), nN_f (by decide)]
  · rw [nN_f (by decide), nN_sn (by omega), nN_f (by decide)]
  · rw [nN_f (by decide), nN_f (by decide), nN_sn (by decide)]
  · rw [lsL_up (by decide) (by decide), lsL_up (by decide) (by decide), lsL_up (by decide) (by decide)]
end WSRS
