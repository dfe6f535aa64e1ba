/-! a stage's end, in the reference -/
section ENDS
def noF (f : Nat) : Bool := match f with | 50 => true | 51 => true | 52 => true | 53 => true | _ => false
def mkF (f : Nat) : Bool := match f with | 8 => true | 9 => true | 10 => true | 15 => true | 16 => true | 50 => true | 51 => true | 52 => true | 53 => true | _ => false
def endF (f : Nat) : Bool := match f with | 8 => true | 9 => true | 10 => true | 11 => true | 12 => true | 15 => true | 16 => true | 26 => true | 46 => true | 47 => true | 50 => true | 51 => true | 52 => true | 53 => true | _ => false
theorem fne {p : Nat → Bool} {f : Nat} (h : p f = false) {c : Nat} (hc : p c = true) : f ≠ c := fun e => by rw [e, hc] at h; cases h
/-- what an end changes -/
def EndE (M M' : MS) (t h : Nat) : Prop :=
  (nN M' 8 = va_up (nN M 8) t h ∧ nN M' 9 = va_up (nN M 9) t (nN M 0 0) ∧ nN M' 10 = va_up (nN M 10) t (nN M 16 0 + 1) ∧ nN M' 15 = va_up (nN M 15) (nN M 16 0 + 1) t ∧ nN M' 16 0 = nN M 16 0 + 1) ∧
  (nN M' 50 = va_up (nN M 50) (nN M 53 0) (nN M 0 0) ∧ nN M' 51 = va_up (nN M 51) (nN M 53 0) t ∧ nN M' 52 = va_up (nN M 52) (nN M 53 0) (h + 1) ∧ nN M' 53 0 = nN M 53 0 + 1) ∧
  (nN M' 26 = if atC M t = true then va_up (nN M 26) t (if h = 3 then 1 else 0) else nN M 26) ∧ (∀ c, c ≤ 12 → plM M' c = (plM M c).erase t) ∧
  (∀ u, u ≠ t → M' 11 u = M 11 u ∧ M' 12 u = M 12 u) ∧ NT exM M' ∧ ∀ f, endF f = false → M' f = M f
variable {n k w x y y' : Nat} {M M' : MS}
theorem note_nn {g t ev : Nat} (hN : NT exM M) (hg : g + 1 < 2 ^ 31) (ht : t < 2 ^ 31) (hev : ev < 2 ^ 31) :
    (nN (noteM M g (nI t) (nI ev)) 50 = va_up (nN M 50) g (nN M 0 0) ∧ nN (noteM M g (nI t) (nI ev)) 51 = va_up (nN M 51) g t ∧ nN (noteM M g (nI t) (nI ev)) 52 = va_up (nN M 52) g ev ∧ nN (noteM M g (nI t) (nI ev)) 53 0 = g + 1) ∧ NT exM (noteM M g (nI t) (nI ev)) ∧ ∀ f, noF f = false → noteM M g (nI t) (nI ev) f = M f := by
  unfold noteM
  refine ⟨⟨?_, ?_, ?_, ?_⟩, (((hN.upm rfl).upn ht).upn hev).upn hg, fun f hf => ?_⟩
  · rw [nN_f (by decide), nN_f (by decide), nN_f (by decide), nN_s]; rfl
  · rw [nN_f (by decide), nN_f (by decide), nN_sn ht, nN_f (by decide)]
  · rw [nN_f (by decide), nN_sn hev, nN_f (by decide), nN_f (by decide)]
  · rw [nN_sn hg, vu_s]
  · rw [up2_f (fne hf rfl), up2_f (fne hf rfl), up2_f (fne hf rfl), up2_f (fne hf rfl)]
theorem markA_nn {t h : Nat} (hN : NT exM M) (ht : t < 2 ^ 31) (hh : h + 1 < 2 ^ 31) (he : nN M 16 0 + 1 < 2 ^ 31) (hg : nN M 53 0 + 1 < 2 ^ 31) :
    (nN (markA M t (nI h)) 8 = va_up (nN M 8) t h ∧ nN (markA M t (nI h)) 9 = va_up (nN M 9) t (nN M 0 0) ∧ nN (markA M t (nI h)) 10 = va_up (nN M 10) t (nN M 16 0 + 1) ∧ nN (markA M t (nI h)) 15 = va_up (nN M 15) (nN M 16 0 + 1) t ∧ nN (markA M t (nI h)) 16 0 = nN M 16 0 + 1) ∧
    (nN (markA M t (nI h)) 50 = va_up (nN M 50) (nN M 53 0) (nN M 0 0) ∧ nN (markA M t (nI h)) 51 = va_up (nN M 51) (nN M 53 0) t ∧ nN (markA M t (nI h)) 52 = va_up (nN M 52) (nN M 53 0) (h + 1) ∧ nN (markA M t (nI h)) 53 0 = nN M 53 0 + 1) ∧
    NT exM (markA M t (nI h)) ∧ ∀ f, mkF f = false → markA M t (nI h) f = M f := by
  unfold markA
  rw [nI_add]
  have N1 : NT exM (up2 (up2 (up2 (up2 (up2 M 8 t (nI h)) 9 t (M 0 0)) 16 0 (nI (nN M 16 0 + 1))) 10 t (nI (nN M 16 0 + 1))) 15 (nN M 16 0 + 1) (nI t)) :=
    ((((hN.upn (by omega)).up (fun _ => hN 0 0 rfl)).upn he).upn he).upn ht
  have e0 : (up2 (up2 (up2 (up2 (up2 M 8 t (nI h)) 9 t (M 0 0)) 16 0 (nI (nN M 16 0 + 1))) 10 t (nI (nN M 16 0 + 1))) 15 (nN M 16 0 + 1) (nI t)) 0 = M 0 := by
    rw [up2_f (by decide), up2_f (by decide), up2_f (by decide), up2_f (by decide), up2_f (by decide)]
  obtain ⟨a, b, c⟩ := note_nn (g := nN M 53 0) (t := t) (ev := h + 1) N1 hg ht hh
  refine ⟨⟨?_, ?_, ?_, ?_, ?_⟩, ⟨?_, ?_, ?_, a.2.2.2⟩, b, fun f hf => ?_⟩
  · rw [nN_e (c 8 rfl), nN_f (by decide), nN_f (by decide), nN_f (by decide), nN_f (by decide), nN_sn (by omega)]
  · rw [nN_e (c 9 rfl), nN_f (by decide), nN_f (by decide), nN_f (by decide), nN_s, nN_f (by decide)]; rfl
  · rw [nN_e (c 10 rfl), nN_f (by decide), nN_sn he, nN_f (by decide), nN_f (by decide), nN_f (by decide)]
  · rw [nN_e (c 15 rfl), nN_sn ht, nN_f (by decide), nN_f (by decide), nN_f (by decide), nN_f (by decide)]
  · rw [nN_e (c 16 rfl), nN_f (by decide), nN_f (by decide), nN_sn he, vu_s]
  · rw [a.1, nN_e e0, nN_f (by decide), nN_f (by decide), nN_f (by decide), nN_f (by decide), nN_f (by decide)]
  · rw [a.2.1, nN_f (by decide), nN_f (by decide), nN_f (by decide), nN_f (by decide), nN_f (by decide)]
  · rw [a.2.2.1, nN_f (by decide), nN_f (by decide), nN_f (by decide), nN_f (by decide), nN_f (by decide)]
  · rw [c f (by cases hq : noF f; rfl; exact absurd hf (by unfold noF at hq; split at hq <;> first | (intro; contradiction) | contradiction)), up2_f (fne hf rfl), up2_f (fne hf rfl), up2_f (fne hf rfl), up2_f (fne hf rfl), up2_f (fne hf rfl)]
/-- does a cook have it? -/
theorem atC_iff (hN : NT exM M) (t : Nat) : atC M t = true ↔ 9 ≤ nN M 2 t ∧ (nN M 19 t = 2 ∨ nN M 19 t = 3) := by
  unfold atC
  rw [decide_eq_true_iff, hN.le rfl (by decide), hN.eq rfl (by decide), hN.eq rfl (by decide)]
theorem mk_end {f : Nat} (h : endF f = false) : mkF f = false := by
  cases hq : mkF f
  · rfl
  · unfold mkF at hq
    split at hq <;> first | (exact absurd h (by decide)) | cases hq
/-- mark does what an end does -/
theorem mark_E {t h : Nat} (hI : Inv n k w x y M) (hx : x ≤ 1) (hy : y ≤ 1) (h1t : 1 ≤ t) (ht : t ≤ n) (ho : nN M 8 t = 0) (hh : 1 ≤ h ∧ h ≤ 3) : EndE M (markM M t (nI h)) t h ∧ markM M t (nI h) 11 = M 11 ∧ markM M t (nI h) 12 = M 12 := by
  have bd := hI.bd hx hy
  have hn := hI.a.1
  obtain ⟨a1, a2, a3, a4⟩ := markA_nn (t := t) (h := h) hI.nt (by omega) (by omega) (by omega) (by omega)
  have p46 : markA M t (nI h) 46 = M 46 := a4 46 rfl
  have p47 : markA M t (nI h) 47 = M 47 := a4 47 rfl
  have hq : ∀ c, c ≤ 12 → nN M 47 c ≤ 200 := fun c hc => by have := hI.p.len hc; rw [pl_len] at this; omega
  cases hc : atC M t with
  | false =>
    have e1 : markM M t (nI h) = markA M t (nI h) := by unfold markM; rw [hc]; rfl
    rw [e1]
    refine ⟨⟨a1, a2, ?_, fun c hc2 => ?_, fun u _ => ⟨by rw [a4 11 rfl], by rw [a4 12 rfl]⟩, a3, fun f hf => a4 f (mk_end hf)⟩, a4 11 rfl, a4 12 rfl⟩
    · rw [hc, if_neg (by decide), nN_e (a4 26 rfl)]
    · rw [pl_e p46 p47, List.erase_of_not_mem]
      intro hm
      have := (hI.p c hc2).2.2 t hm
      rw [(atC_iff hI.nt t).mpr ⟨this.2.2.1, this.2.2.2.2.1⟩] at hc
      cases hc
  | true =>
    have e1 : markM M t (nI h) = levM (up2 (markA M t (nI h)) 26 t (bI (decide (nI h = nI 3)))) t := by unfold markM; rw [hc]; rfl
    rw [e1]
    have hb : bI (decide (nI h = nI 3)) = nI (if h = 3 then 1 else 0) := by
      by_cases h3 : h = 3
      · subst h3; rfl
      · rw [if_neg h3, decide_eq_false (fun q => h3 ((nI_eq (by omega) (by decide)).mp q))]; rfl
    rw [hb]
    generalize hM1 : up2 (markA M t (nI h)) 26 t (nI (if h = 3 then 1 else 0)) = M1
    have o1 : ∀ f, mkF f = false → f ≠ 26 → M1 f = M f := fun f h1 h2 => by rw [← hM1, up2_f h2, a4 f h1]
    have o2 : ∀ f, f ≠ 26 → M1 f = markA M t (nI h) f := fun f h2 => by rw [← hM1, up2_f h2]
    have N1 : NT exM M1 := by rw [← hM1]; exact a3.upn (by split <;> decide)
    have e25 : nN M1 25 = nN M 25 := nN_e (o1 25 rfl (by decide))
    have epl : ∀ c, plM M1 c = plM M c := fun c => pl_e (o1 46 rfl (by decide)) (o1 47 rfl (by decide))
    have h9 := (atC_iff hI.nt t).mp hc
    have hck : nN M 25 t ≤ 12 := by
      have q1 := (((hI.d t h1t ht).2.2.2.2 h9.1).2 ho).1 h9.2
      have q2 := hI.a.2.2.1
      omega
    obtain ⟨l1, l2, l3, l4⟩ := lev_pl (M := M1) (s := t) N1 (by omega) (by rw [e25]; exact hck) (fun c hc2 => by rw [nN_e (o1 47 rfl (by decide))]; exact hq c hc2) (by rw [epl, e25]; exact (hI.p _ hck).1)
    rw [e25] at l1 l2
    have o4 : ∀ f, f ≠ 26 → f ≠ 46 → f ≠ 47 → levM M1 t f = markA M t (nI h) f := fun f q1 q2 q3 => by rw [l4 f q2 q3, o2 f q1]
    refine ⟨⟨⟨?_, ?_, ?_, ?_, ?_⟩, ⟨?_, ?_, ?_, ?_⟩, ?_, fun c hc2 => ?_, fun u _ => ⟨?_, ?_⟩, l3, fun f hf => ?_⟩, ?_, ?_⟩
    · rw [nN_e (o4 8 (by decide) (by decide) (by decide))]; exact a1.1
    · rw [nN_e (o4 9 (by decide) (by decide) (by decide))]; exact a1.2.1
    · rw [nN_e (o4 10 (by decide) (by decide) (by decide))]; exact a1.2.2.1
    · rw [nN_e (o4 15 (by decide) (by decide) (by decide))]; exact a1.2.2.2.1
    · rw [nN_e (o4 16 (by decide) (by decide) (by decide))]; exact a1.2.2.2.2
    · rw [nN_e (o4 50 (by decide) (by decide) (by decide))]; exact a2.1
    · rw [nN_e (o4 51 (by decide) (by decide) (by decide))]; exact a2.2.1
    · rw [nN_e (o4 52 (by decide) (by decide) (by decide))]; exact a2.2.2.1
    · rw [nN_e (o4 53 (by decide) (by decide) (by decide))]; exact a2.2.2.2
    · rw [hc, if_pos rfl, nN_e (l4 26 (by decide) (by decide)), ← hM1, nN_sn (by split <;> decide), nN_e (a4 26 rfl)]
    · by_cases h5 : c = nN M 25 t
      · subst h5; rw [l1, epl]
      · rw [l2 c hc2 h5, epl, List.erase_of_not_mem]
        intro hm
        exact h5 ((hI.p c hc2).2.2 t hm).2.2.2.2.2.symm
    · rw [o4 11 (by decide) (by decide) (by decide), a4 11 rfl]
    · rw [o4 12 (by decide) (by decide) (by decide), a4 12 rfl]
    · rw [o4 f (fne hf rfl) (fne hf rfl) (fne hf rfl), a4 f (mk_end hf)]
    · rw [o4 11 (by decide) (by decide) (by decide), a4 11 rfl]
    · rw [o4 12 (by decide) (by decide) (by decide), a4 12 rfl]
/-- an end keeps the invariant -/
theorem EndE.inv {t h : Nat} (hI : Inv n k w x y M) (h1t : 1 ≤ t) (ht : t ≤ n) (ho : nN M 8 t = 0) (hh : 1 ≤ h ∧ h ≤ 3) (E : EndE M M' t h) (hf : h = 2 → nN M' 12 t < nN M 38 0) (hy : y + nst (nN M 2 t) 0 (nN M 19 t) (nN M 24 t) ≤ y' + nst (nN M 2 t) h (nN M 19 t) (nN M 24 t)) : Inv n k w (x - 1) y' M' := by
  obtain ⟨⟨e8, e9, e10, e15, e16⟩, ⟨e50, e51, e52, e53⟩, e26, epl, e11, hN, ef⟩ := E
  have e : ∀ f, endF f = false → nN M' f = nN M f := fun f h => nN_e (ef f h)
  have hlt := hI.e.lt h1t ht ho
  refine ⟨hN, ?_, ?_, ?_, ?_, ?_, ?_, ?_, ?_, ?_⟩
  · obtain ⟨a1, a2, a3, a4, a5, a6, a7⟩ := hI.a
    exact ⟨a1, a2, a3, a4, by rw [e 1 rfl]; exact a5, by rw [e 45 rfl]; exact a6, by rw [e 0 rfl]; exact a7⟩
  · show iS n _ _ _ _ _ _ _ _
    rw [e 2 rfl, e 3 rfl, e 4 rfl, e 5 rfl, e 7 rfl, e 18 rfl, e 29 rfl, e 30 rfl]; exact hI.s
  · show iZ n _ _ _ _ _ _ _ _ _ _ _ _ _ _ _
    rw [e 4 rfl, e 7 rfl, e8, e9, e10, e 13 rfl, e 21 rfl, e 22 rfl, e 25 rfl, e26, e 27 rfl, e 29 rfl, e 30 rfl, ef 14 rfl]
    intro u h1 h2
    have hu : u ≠ t := by omega
    obtain ⟨⟨z1, z2, z3, z4, z5, z6, z7, z8⟩, y1, y2, y3, y4, y5, y6, y7⟩ := hI.zz u h1 h2
    refine ⟨⟨z1, z2, by rw [vu_n hu]; exact z3, by rw [vu_n hu]; exact z4, by rw [vu_n hu]; exact z5, z6, z7, z8⟩, y1, ?_, y3, y4, y5, by rw [(e11 u hu).1]; exact y6, y7⟩
    split
    · rw [vu_n hu]; exact y2
    · exact y2
  · show iD n 12 _ _ _ _ _ _ _ _
    rw [e 2 rfl, e8, e 19 rfl, e 21 rfl, e 24 rfl, e 25 rfl, e 27 rfl, e 29 rfl]
    intro u h1 h2
    by_cases hu : u = t
    · subst hu
      rw [vu_s]
      obtain ⟨d1, d2, d3, d4, d5⟩ := hI.d u h1 h2
      exact ⟨hh.2, d2, d3, d4, fun h9 => ⟨(d5 h9).1, fun h0 => by omega⟩⟩
    · rw [vu_n hu]; exact hI.d u h1 h2
  · show iE n _ _ _ _
    rw [e16, e8, e10, e15]
    obtain ⟨p1, p2, p3, p4, p5⟩ := hI.e
    refine ⟨fun p h1 h2 => ?_, fun s h1 h2 h3 => ?_, ?_, ?_, ?_⟩
    · by_cases hp : p = nN M 16 0 + 1
      · subst hp; rw [vu_s, vu_s, vu_s]; exact ⟨h1t, ht, by omega, rfl⟩
      · have q := p1 p h1 (by omega)
        rw [vu_n hp]
        have hne : nN M 15 p ≠ t := fun q2 => q.2.2.1 (by rw [q2]; exact ho)
        rw [vu_n hne, vu_n hne]
        exact q
    · by_cases hs : s = t
      · subst hs; rw [vu_s, vu_s]; exact ⟨by omega, by omega, rfl⟩
      · rw [vu_n hs] at h3
        have q := p2 s h1 h2 h3
        rw [vu_n hs, vu_n (by omega)]
        exact ⟨q.1, by omega, q.2.2⟩
    · have q := sumN_one (f := fun j => if va_up (nN M 8) t h (j + 1) = 0 then 0 else 1) (g := fun j => if nN M 8 (j + 1) = 0 then 0 else 1) (i := t - 1) (n := n) (by omega) (fun j _ hj => by show (if va_up (nN M 8) t h (j + 1) = 0 then 0 else 1) = _; rw [vu_n (by omega)])
      simp only [show t - 1 + 1 = t by omega, ho, vu_s, if_true] at q
      rw [if_neg (by omega)] at q
      omega
    · rw [vu_n (by omega)]; exact p4
    · rw [vu_n (by omega)]; exact p5
  · show iF n _ _ _ _ _ _ _ _ _ _ _
    rw [e 38 rfl, e 40 rfl, e8, e 27 rfl, e 31 rfl, e 33 rfl, e 36 rfl, e 37 rfl, e 39 rfl, ef 35 rfl]
    obtain ⟨f1, f2, f3, f4⟩ := hI.f
    refine ⟨f1, f2, fun u h1 h2 h3 => ?_, f4⟩
    by_cases hu : u = t
    · subst hu; rw [vu_s] at h3; exact hf h3
    · rw [vu_n hu] at h3
      rw [nN, (e11 u hu).2]; exact f3 u h1 h2 h3
  · show iB n _ _ _ _ _ _ _ _ _ _ _ _
    rw [e16, e 38 rfl, e 40 rfl, e53, e 2 rfl, e8, e 19 rfl, e 21 rfl, e 24 rfl, e 27 rfl]
    obtain ⟨b1, b2, b3⟩ := hI.b
    have q := sumN_one (f := fun j => nN M 21 (j + 1) + nN M 27 (j + 1) + nst (nN M 2 (j + 1)) (va_up (nN M 8) t h (j + 1)) (nN M 19 (j + 1)) (nN M 24 (j + 1))) (g := fun j => nN M 21 (j + 1) + nN M 27 (j + 1) + nst (nN M 2 (j + 1)) (nN M 8 (j + 1)) (nN M 19 (j + 1)) (nN M 24 (j + 1))) (i := t - 1) (n := n) (by omega) (fun j _ hj => by
      show nN M 21 (j + 1) + nN M 27 (j + 1) + nst (nN M 2 (j + 1)) (va_up (nN M 8) t h (j + 1)) (nN M 19 (j + 1)) (nN M 24 (j + 1)) = _
      rw [vu_n (by omega)])
    simp only [show t - 1 + 1 = t by omega, vu_s, ho] at q
    exact ⟨by omega, by omega, by omega⟩
  · show iP n k _ _ _ _ _
    rw [e 2 rfl, e8, e 19 rfl, e 25 rfl]
    intro c hc
    obtain ⟨p1, p2, p3⟩ := hI.p c hc
    rw [epl c hc]
    refine ⟨p1.erase t, fun q => by rw [p2 q]; rfl, fun u hu => ?_⟩
    have hm := p1.mem_erase_iff.mp hu
    have q := p3 u hm.2
    rw [vu_n hm.1]
    exact q
  · show iH _ _ _ _
    rw [e 44 rfl, e 41 rfl, e 42 rfl, e 43 rfl]; exact hI.hh
theorem nst_le (so wh pt h : Nat) (hh : 1 ≤ h) : nst so 0 wh pt ≤ nst so h wh pt := by
  unfold nst
  rw [if_pos rfl, if_neg (show ¬ h = 0 by omega)]
  repeat' split
  all_goals omega
end ENDS
