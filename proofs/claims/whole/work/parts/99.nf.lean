/-! ends with a value, with a failure, as another; new failures -/
section NFS
variable {n k w x y y' : Nat} {M M1 M' : MS}
theorem NT.le0 (h : NT exM M) : True := trivial
theorem EndE.pre {t h : Nat} (o : ∀ f, f ≠ 11 → f ≠ 12 → M1 f = M f) (o2 : ∀ u, u ≠ t → M1 11 u = M 11 u ∧ M1 12 u = M 12 u) (E : EndE M1 M' t h) : EndE M M' t h := by
  have e : ∀ f, f ≠ 11 → f ≠ 12 → nN M1 f = nN M f := fun f a b => nN_e (o f a b)
  obtain ⟨⟨e8, e9, e10, e15, e16⟩, ⟨e50, e51, e52, e53⟩, e26, epl, e11, hN, ef⟩ := E
  rw [e 8 (by decide) (by decide)] at e8
  rw [e 9 (by decide) (by decide), e 0 (by decide) (by decide)] at e9
  rw [e 10 (by decide) (by decide), e 16 (by decide) (by decide)] at e10
  rw [e 15 (by decide) (by decide), e 16 (by decide) (by decide)] at e15
  rw [e 16 (by decide) (by decide)] at e16
  rw [e 50 (by decide) (by decide), e 53 (by decide) (by decide), e 0 (by decide) (by decide)] at e50
  rw [e 51 (by decide) (by decide), e 53 (by decide) (by decide)] at e51
  rw [e 52 (by decide) (by decide), e 53 (by decide) (by decide)] at e52
  rw [e 53 (by decide) (by decide)] at e53
  rw [e 26 (by decide) (by decide), show atC M1 t = atC M t by unfold atC; rw [o 2 (by decide) (by decide), o 19 (by decide) (by decide)]] at e26
  refine ⟨⟨e8, e9, e10, e15, e16⟩, ⟨e50, e51, e52, e53⟩, e26, fun c hc => ?_, fun u hu => ?_, hN, fun f hf => ?_⟩
  · rw [epl c hc, pl_e (o 46 (by decide) (by decide)) (o 47 (by decide) (by decide))]
  · rw [(e11 u hu).1, (e11 u hu).2]; exact o2 u hu
  · rw [ef f hf, o f (fne hf rfl) (fne hf rfl)]
theorem Inv.up11 {t : Nat} (hI : Inv n k w x y M) (h1t : 1 ≤ t) (ht : t ≤ n) (v : Int32) : Inv n k w x y (up2 M 11 t v) := by
  have e : ∀ f, f ≠ 11 → nN (up2 M 11 t v) f = nN M f := fun f h => nN_f h
  have ep : plM (up2 M 11 t v) = plM M := funext (fun c => pl_e (up2_f (by decide)) (up2_f (by decide)))
  obtain ⟨h0, ⟨a1, a2, a3, a4, a5, a6, a7⟩, h2, h3, h4, h5, h6, h7, h8, h9⟩ := hI
  refine ⟨h0.upx rfl, ⟨a1, a2, a3, a4, by rw [e 1 (by decide)]; exact a5, by rw [e 45 (by decide)]; exact a6, by rw [e 0 (by decide)]; exact a7⟩, ?_, ?_, ?_, ?_, ?_, ?_, ?_, ?_⟩
  · show iS n _ _ _ _ _ _ _ _
    rw [e 2 (by decide), e 3 (by decide), e 4 (by decide), e 5 (by decide), e 7 (by decide), e 18 (by decide), e 29 (by decide), e 30 (by decide)]; exact h2
  · show iZ n _ _ _ _ _ _ _ _ _ _ _ _ _ _ _
    rw [e 4 (by decide), e 7 (by decide), e 8 (by decide), e 9 (by decide), e 10 (by decide), e 13 (by decide), e 21 (by decide), e 22 (by decide), e 25 (by decide), e 26 (by decide), e 27 (by decide), e 29 (by decide), e 30 (by decide), up2_f (show 14 ≠ 11 by decide)]
    intro u q1 q2
    obtain ⟨z, y1, y2, y3, y4, y5, y6, y7⟩ := h3 u q1 q2
    exact ⟨z, y1, y2, y3, y4, y5, by rw [up2_i (by omega)]; exact y6, y7⟩
  · show iD n 12 _ _ _ _ _ _ _ _
    rw [e 2 (by decide), e 8 (by decide), e 19 (by decide), e 21 (by decide), e 24 (by decide), e 25 (by decide), e 27 (by decide), e 29 (by decide)]; exact h4
  · show iE n _ _ _ _
    rw [e 16 (by decide), e 8 (by decide), e 10 (by decide), e 15 (by decide)]; exact h5
  · show iF n _ _ _ _ _ _ _ _ _ _ _
    rw [e 38 (by decide), e 40 (by decide), e 8 (by decide), e 12 (by decide), e 27 (by decide), e 31 (by decide), e 33 (by decide), e 36 (by decide), e 37 (by decide), e 39 (by decide), up2_f (show 35 ≠ 11 by decide)]; exact h6
  · show iB n _ _ _ _ _ _ _ _ _ _ _ _
    rw [e 16 (by decide), e 38 (by decide), e 40 (by decide), e 53 (by decide), e 2 (by decide), e 8 (by decide), e 19 (by decide), e 21 (by decide), e 24 (by decide), e 27 (by decide)]; exact h7
  · show iP n k _ _ _ _ _
    rw [e 2 (by decide), e 8 (by decide), e 19 (by decide), e 25 (by decide), ep]; exact h8
  · show iH _ _ _ _
    rw [e 44 (by decide), e 41 (by decide), e 42 (by decide), e 43 (by decide)]; exact h9
theorem Inv.up12 {t v : Nat} (hI : Inv n k w x y M) (hv : v < 2 ^ 31) (ho : nN M 8 t = 0) : Inv n k w x y (up2 M 12 t (nI v)) := by
  have e : ∀ f, f ≠ 12 → nN (up2 M 12 t (nI v)) f = nN M f := fun f h => nN_f h
  have ep : plM (up2 M 12 t (nI v)) = plM M := funext (fun c => pl_e (up2_f (by decide)) (up2_f (by decide)))
  obtain ⟨h0, ⟨a1, a2, a3, a4, a5, a6, a7⟩, h2, h3, h4, h5, h6, h7, h8, h9⟩ := hI
  refine ⟨h0.upn hv, ⟨a1, a2, a3, a4, by rw [e 1 (by decide)]; exact a5, by rw [e 45 (by decide)]; exact a6, by rw [e 0 (by decide)]; exact a7⟩, ?_, ?_, ?_, ?_, ?_, ?_, ?_, ?_⟩
  · show iS n _ _ _ _ _ _ _ _
    rw [e 2 (by decide), e 3 (by decide), e 4 (by decide), e 5 (by decide), e 7 (by decide), e 18 (by decide), e 29 (by decide), e 30 (by decide)]; exact h2
  · show iZ n _ _ _ _ _ _ _ _ _ _ _ _ _ _ _
    rw [e 4 (by decide), e 7 (by decide), e 8 (by decide), e 9 (by decide), e 10 (by decide), e 13 (by decide), e 21 (by decide), e 22 (by decide), e 25 (by decide), e 26 (by decide), e 27 (by decide), e 29 (by decide), e 30 (by decide), up2_f (show 14 ≠ 12 by decide), up2_f (show 11 ≠ 12 by decide)]; exact h3
  · show iD n 12 _ _ _ _ _ _ _ _
    rw [e 2 (by decide), e 8 (by decide), e 19 (by decide), e 21 (by decide), e 24 (by decide), e 25 (by decide), e 27 (by decide), e 29 (by decide)]; exact h4
  · show iE n _ _ _ _
    rw [e 16 (by decide), e 8 (by decide), e 10 (by decide), e 15 (by decide)]; exact h5
  · show iF n _ _ _ _ _ _ _ _ _ _ _
    rw [e 38 (by decide), e 40 (by decide), e 8 (by decide), e 27 (by decide), e 31 (by decide), e 33 (by decide), e 36 (by decide), e 37 (by decide), e 39 (by decide), up2_f (show 35 ≠ 12 by decide)]
    refine ⟨h6.1, h6.2.1, fun u q1 q2 q3 => ?_, h6.2.2.2⟩
    have hu : u ≠ t := fun q => by subst q; omega
    rw [nN_sn hv, vu_n hu]
    exact h6.2.2.1 u q1 q2 q3
  · show iB n _ _ _ _ _ _ _ _ _ _ _ _
    rw [e 16 (by decide), e 38 (by decide), e 40 (by decide), e 53 (by decide), e 2 (by decide), e 8 (by decide), e 19 (by decide), e 21 (by decide), e 24 (by decide), e 27 (by decide)]; exact h7
  · show iP n k _ _ _ _ _
    rw [e 2 (by decide), e 8 (by decide), e 19 (by decide), e 25 (by decide), ep]; exact h8
  · show iH _ _ _ _
    rw [e 44 (by decide), e 41 (by decide), e 42 (by decide), e 43 (by decide)]; exact h9
theorem wv_E {t : Nat} (hI : Inv n k w x y M) (hx : x ≤ 1) (hy : y ≤ 1) (h1t : 1 ≤ t) (ht : t ≤ n) (ho : nN M 8 t = 0) (v : Int32) : EndE M (wvM M t v) t 1 ∧ wvM M t v 11 t = v ∧ wvM M t v 12 = M 12 := by
  unfold wvM
  obtain ⟨a, b, c⟩ := mark_E (t := t) (h := 1) (hI.up11 h1t ht v) hx hy h1t ht (by rw [nN_f (by decide)]; exact ho) ⟨by decide, by decide⟩
  exact ⟨a.pre (fun f q _ => up2_f q) (fun u hu => ⟨up2_i hu, by rw [up2_f (by decide)]⟩), by rw [b, up2_s], by rw [c, up2_f (by decide)]⟩
theorem wf_E {t v : Nat} (hI : Inv n k w x y M) (hx : x ≤ 1) (hy : y ≤ 1) (h1t : 1 ≤ t) (ht : t ≤ n) (ho : nN M 8 t = 0) (hv : v < 2 ^ 31) : EndE M (wfM M t (nI v)) t 2 ∧ wfM M t (nI v) 11 = M 11 ∧ wfM M t (nI v) 12 t = nI v := by
  unfold wfM
  obtain ⟨a, b, c⟩ := mark_E (t := t) (h := 2) (hI.up12 hv ho) hx hy h1t ht (by rw [nN_f (by decide)]; exact ho) ⟨by decide, by decide⟩
  exact ⟨a.pre (fun f _ q => up2_f q) (fun u hu => ⟨by rw [up2_f (by decide)], up2_i hu⟩), by rw [b, up2_f (by decide)], by rw [c, up2_s]⟩
theorem as_E {t s : Nat} (hI : Inv n k w x y M) (hx : x ≤ 1) (hy : y ≤ 1) (h1t : 1 ≤ t) (ht : t ≤ n) (ho : nN M 8 t = 0) (hs : 1 ≤ nN M 8 s ∧ nN M 8 s ≤ 3) : EndE M (asM M t s) t (nN M 8 s) ∧ asM M t s 11 t = M 11 s ∧ asM M t s 12 t = M 12 s := by
  unfold asM
  rw [hI.nt 8 s rfl, hI.nt 12 s rfl]
  have I1 := (hI.up11 h1t ht (M 11 s)).up12 (t := t) (v := nN M 12 s) (nN_lt M 12 s) (by rw [nN_f (by decide)]; exact ho)
  obtain ⟨a, b, c⟩ := mark_E (t := t) (h := nN M 8 s) I1 hx hy h1t ht (by rw [nN_f (by decide), nN_f (by decide)]; exact ho) hs
  exact ⟨a.pre (fun f p q => by rw [up2_f q, up2_f p]) (fun u hu => ⟨by rw [up2_f (by decide), up2_i hu], by rw [up2_i hu, up2_f (by decide)]⟩), by rw [b, up2_f (by decide), up2_s], by rw [c, up2_s]⟩
/-- a new failure, with its suppressed ones -/
def nfF (f : Nat) : Bool := match f with | 33 => true | 34 => true | 35 => true | 36 => true | 37 => true | 38 => true | 39 => true | 40 => true | _ => false
def NFE (M M1 : MS) (kd at' : Nat) (ca : Int32) (l : List Nat) : Prop :=
  nN M1 33 = va_up (nN M 33) (nN M 38 0) kd ∧ nN M1 34 = va_up (nN M 34) (nN M 38 0) at' ∧ M1 35 = va_up (M 35) (nN M 38 0) ca ∧ nN M1 36 = va_up (nN M 36) (nN M 38 0) (nN M 40 0) ∧ nN M1 37 = va_up (nN M 37) (nN M 38 0) l.length ∧ nN M1 38 0 = nN M 38 0 + 1 ∧ nN M1 40 0 = nN M 40 0 + l.length ∧
  (∀ j, j < l.length → nN M1 39 (nN M 40 0 + j) = l[j]?.getD 0) ∧ (∀ i, i < nN M 40 0 → nN M1 39 i = nN M 39 i) ∧ NT exM M1 ∧ ∀ f, nfF f = false → M1 f = M f
theorem up2_va (M : MS) (f j : Nat) (v : Int32) : up2 M f j v f = va_up (M f) j v := by
  funext i
  by_cases h : i = j
  · subst h; rw [up2_s, vu_s]
  · rw [up2_i h, vu_n h]
theorem nf_E {kd at' : Nat} {ca : Int32} (hN : NT exM M) (hk : kd < 2 ^ 31) (ha : at' < 2 ^ 31) (hF : nN M 38 0 + 1 < 2 ^ 31) : NFE M (newFM M (nN M 38 0) (nI kd) (nI at') ca) kd at' ca [] := by
  unfold newFM
  refine ⟨?_, ?_, ?_, ?_, ?_, ?_, ?_, fun j hj => absurd hj (Nat.not_lt_zero j), fun i _ => ?_, ?_, fun f hf => ?_⟩
  · rw [nN_f (by decide), nN_f (by decide), nN_f (by decide), nN_f (by decide), nN_f (by decide), nN_sn hk]
  · rw [nN_f (by decide), nN_f (by decide), nN_f (by decide), nN_f (by decide), nN_sn ha, nN_f (by decide)]
  · rw [up2_f (by decide), up2_f (by decide), up2_f (by decide), up2_va, up2_f (by decide), up2_f (by decide)]
  · rw [nN_f (by decide), nN_f (by decide), nN_s, nN_f (by decide), nN_f (by decide), nN_f (by decide)]; rfl
  · rw [nN_f (by decide), nN_sn (by decide), nN_f (by decide), nN_f (by decide), nN_f (by decide), nN_f (by decide)]; rfl
  · rw [nN_sn hF, vu_s]
  · rw [nN_f (by decide), nN_f (by decide), nN_f (by decide), nN_f (by decide), nN_f (by decide), nN_f (by decide)]; rfl
  · rw [nN_f (by decide), nN_f (by decide), nN_f (by decide), nN_f (by decide), nN_f (by decide), nN_f (by decide)]
  · exact (((((hN.upn hk).upn ha).upx rfl).up (fun _ => hN 40 0 rfl)).upn (by decide)).upn hF
  · rw [up2_f (fne hf rfl), up2_f (fne hf rfl), up2_f (fne hf rfl), up2_f (fne hf rfl), up2_f (fne hf rfl), up2_f (fne hf rfl)]
theorem sup_E {kd at' o : Nat} {ca : Int32} {l : List Nat} (E : NFE M M1 kd at' ca l) (ho : o < 2 ^ 31) (hb : nN M 40 0 + l.length + 1 < 2 ^ 31) : NFE M (supM M1 (nN M 38 0) (nN M 40 0) l.length (nI o)) kd at' ca (l ++ [o]) := by
  obtain ⟨e33, e34, e35, e36, e37, e38, e40, e39, e39', hN, ef⟩ := E
  unfold supM
  have hl : (l ++ [o]).length = l.length + 1 := by simp
  refine ⟨?_, ?_, ?_, ?_, ?_, ?_, ?_, fun j hj => ?_, fun i hi => ?_, ?_, fun f hf => ?_⟩
  · rw [nN_f (by decide), nN_f (by decide), nN_f (by decide)]; exact e33
  · rw [nN_f (by decide), nN_f (by decide), nN_f (by decide)]; exact e34
  · rw [up2_f (by decide), up2_f (by decide), up2_f (by decide)]; exact e35
  · rw [nN_f (by decide), nN_f (by decide), nN_f (by decide)]; exact e36
  · rw [nN_f (by decide), nN_sn (by omega), nN_f (by decide), e37, hl]
    funext i
    by_cases h : i = nN M 38 0
    · subst h; rw [vu_s, vu_s]
    · rw [vu_n h, vu_n h, vu_n h]
  · rw [nN_f (by decide), nN_f (by decide), nN_f (by decide)]; exact e38
  · rw [nN_sn (by omega), vu_s, hl]
  · rw [nN_f (by decide), nN_f (by decide), nN_sn ho]
    by_cases h : j = l.length
    · subst h; rw [vu_s]; simp
    · rw [hl] at hj
      rw [vu_n (by omega), e39 j (by omega), List.getElem?_append_left (by omega)]
  · rw [nN_f (by decide), nN_f (by decide), nN_sn ho, vu_n (by omega)]; exact e39' i hi
  · exact ((hN.upn ho).upn (by omega)).upn (by omega)
  · rw [up2_f (fne hf rfl), up2_f (fne hf rfl), up2_f (fne hf rfl)]; exact ef f hf
/-- a new failure keeps the invariant, but that its end is still owed -/
theorem NFE.inv {kd at' : Nat} {ca : Int32} {l : List Nat} (hI : Inv n k w 0 y M) (E : NFE M M1 kd at' ca l) (hk : kd ≤ 15) (hl : l.length ≤ 24) (hca : ca = -1 ∨ ∃ h, h < nN M 38 0 ∧ ca = nI h) (hm : ∀ o ∈ l, o < nN M 38 0) : Inv n k w 1 y M1 := by
  obtain ⟨e33, e34, e35, e36, e37, e38, e40, e39, e39', hN, ef⟩ := E
  have e : ∀ f, nfF f = false → nN M1 f = nN M f := fun f h => nN_e (ef f h)
  have ep : plM M1 = plM M := funext (fun c => pl_e (ef 46 rfl) (ef 47 rfl))
  obtain ⟨h0, ⟨a1, a2, a3, a4, a5, a6, a7⟩, h2, h3, h4, h5, h6, h7, h8, h9⟩ := hI
  refine ⟨hN, ⟨a1, a2, a3, a4, by rw [e 1 rfl]; exact a5, by rw [e 45 rfl]; exact a6, by rw [e 0 rfl]; exact a7⟩, ?_, ?_, ?_, ?_, ?_, ?_, ?_, ?_⟩
  · show iS n _ _ _ _ _ _ _ _
    rw [e 2 rfl, e 3 rfl, e 4 rfl, e 5 rfl, e 7 rfl, e 18 rfl, e 29 rfl, e 30 rfl]; exact h2
  · show iZ n _ _ _ _ _ _ _ _ _ _ _ _ _ _ _
    rw [e 4 rfl, e 7 rfl, e 8 rfl, e 9 rfl, e 10 rfl, e 13 rfl, e 21 rfl, e 22 rfl, e 25 rfl, e 26 rfl, e 27 rfl, e 29 rfl, e 30 rfl, ef 14 rfl, ef 11 rfl]; exact h3
  · show iD n 12 _ _ _ _ _ _ _ _
    rw [e 2 rfl, e 8 rfl, e 19 rfl, e 21 rfl, e 24 rfl, e 25 rfl, e 27 rfl, e 29 rfl]; exact h4
  · show iE n _ _ _ _
    rw [e 16 rfl, e 8 rfl, e 10 rfl, e 15 rfl]; exact h5
  · show iF n _ _ _ _ _ _ _ _ _ _ _
    rw [e38, e40, e 8 rfl, e 12 rfl, e 27 rfl, e 31 rfl, e33, e36, e37, e35]
    obtain ⟨f1, f2, f3, f4⟩ := h6
    refine ⟨fun g hg => ?_, ?_, fun u q1 q2 q3 => Nat.lt_succ_of_lt (f3 u q1 q2 q3), fun u q1 q2 j q3 => Nat.lt_succ_of_lt (f4 u q1 q2 j q3)⟩
    · by_cases hgF : g = nN M 38 0
      · subst hgF
        rw [vu_s, vu_s, vu_s, vu_s]
        refine ⟨hk, ?_, hl, Nat.le_refl _, fun j hj => ?_⟩
        · rcases hca with q | ⟨h, q1, q2⟩
          · exact Or.inl q
          · exact Or.inr ⟨h, by omega, q2⟩
        · rw [e39 j hj, List.getElem?_eq_getElem hj, Option.getD_some]
          have := hm _ (List.getElem_mem hj)
          omega
      · rw [vu_n hgF, vu_n hgF, vu_n hgF, vu_n hgF]
        obtain ⟨g1, g2, g3, g4, g5⟩ := f1 g (by omega)
        refine ⟨g1, ?_, g3, by omega, fun j hj => ?_⟩
        · rcases g2 with q | ⟨h, q1, q2⟩
          · exact Or.inl q
          · exact Or.inr ⟨h, by omega, q2⟩
        · rw [e39' _ (by omega)]
          have := g5 j hj
          omega
    · rw [sumN, vu_s]
      have q := sumN_congr (f := va_up (nN M 37) (nN M 38 0) l.length) (g := nN M 37) (n := nN M 38 0) (fun j hj => vu_n (by omega))
      omega
  · show iB n _ _ _ _ _ _ _ _ _ _ _ _
    rw [e 16 rfl, e38, e40, e 53 rfl, e 2 rfl, e 8 rfl, e 19 rfl, e 21 rfl, e 24 rfl, e 27 rfl]
    obtain ⟨b1, b2, b3⟩ := h7
    exact ⟨by omega, by omega, b3⟩
  · show iP n k _ _ _ _ _
    rw [e 2 rfl, e 8 rfl, e 19 rfl, e 25 rfl, ep]; exact h8
  · show iH _ _ _ _
    rw [e 44 rfl, e 41 rfl, e 42 rfl, e 43 rfl]; exact h9
end NFS
