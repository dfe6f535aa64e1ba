/-! a new stage, in the reference -/
section NEWS
variable {n k w x y y' : Nat} {M M1 M' : MS} {t : Nat} {m3 m4 : Nat → Int32}
def nwF (f : Nat) : Bool := match f with | 1 => true | 2 => true | 3 => true | 4 => true | 5 => true | 6 => true | 7 => true | 18 => true | 19 => true | 20 => true | 29 => true | 30 => true | 32 => true | _ => false
theorem Inv.new {so kd v7 v18 v19 v29 v30 : Nat} {ls : List Nat} (hI : Inv n k w 0 0 M) (hn : n + 1 ≤ 200) (hN : NT exM M') (o : ∀ f, nwF f = false → M' f = M f)
    (e1 : nN M' 1 0 = n + 1) (e2 : nN M' 2 = va_up (nN M 2) (n + 1) so) (e4 : nN M' 4 = va_up (nN M 4) (n + 1) ls.length) (e5 : nN M' 5 = va_up (nN M 5) (n + 1) kd) (e7 : nN M' 7 = va_up (nN M 7) (n + 1) v7) (e18 : nN M' 18 = va_up (nN M 18) (n + 1) v18) (e19 : nN M' 19 = va_up (nN M 19) (n + 1) v19) (e29 : nN M' 29 = va_up (nN M 29) (n + 1) v29) (e30 : nN M' 30 = va_up (nN M 30) (n + 1) v30)
    (e3a : ∀ j, j < ls.length → nN M' 3 (24 * (n + 1) + j) = ls[j]?.getD 0) (e3b : ∀ i, i < 24 * (n + 1) → nN M' 3 i = nN M 3 i)
    (hso : so ≤ 12) (hlen : ls.length ≤ 24) (hshp : shp so ls.length) (hls : ∀ u ∈ ls, 1 ≤ u ∧ u ≤ n) (hnd : ls.Nodup) (hkd : kd ≤ 15 ∧ (so ≤ 2 ∨ 9 ≤ so → kd ≤ 4)) (h7 : v7 ≤ 200 ∧ (so = 5 → 1 ≤ v7 ∧ v7 ≤ ls.length) ∧ (so = 6 ∨ so = 7 → v7 = ls[ls.length - 1]?.getD 0)) (h18 : 9 ≤ so → 1 ≤ v18 ∧ v18 ≤ 60) (h29 : v29 ≤ 5 ∧ (so ≠ 10 → v29 = 0)) (h30 : v30 ≤ 30) (h19 : 9 ≤ so → v19 ≤ 1 ∧ (v19 = 0 → so = 12)) : Inv (n + 1) k w 0 0 M' := by
  have e : ∀ f, nwF f = false → nN M' f = nN M f := fun f h => nN_e (o f h)
  have ep : plM M' = plM M := funext (fun c => pl_e (o 46 rfl) (o 47 rfl))
  obtain ⟨h0, ⟨a1, a2, a3, a4, a5, a6, a7⟩, h2, h3, h4, h5, h6, h7', h8, h9⟩ := hI
  obtain ⟨⟨z1, z2, z3, z4, z5, z6, z7, z8⟩, y1, y2, y3, y4, y5, y6, y7⟩ := h3 (n + 1) (Or.inr (by omega)) hn
  refine ⟨hN, ⟨by omega, a2, a3, a4, e1, by rw [e 45 rfl]; exact a6, by rw [e 0 rfl]; exact a7⟩, ?_, ?_, ?_, ?_, ?_, ?_, ?_, ?_⟩
  · show iS (n + 1) _ _ _ _ _ _ _ _
    rw [e2, e4, e5, e7, e18, e29, e30]
    refine ⟨by rw [vu_n (by omega)]; exact h2.1, fun t h1 ht => ?_⟩
    by_cases hu : t = n + 1
    · subst hu
      rw [vu_s, vu_s, vu_s, vu_s, vu_s, vu_s, vu_s]
      refine ⟨⟨hso, hlen, hshp⟩, fun j hj => ?_, fun i j hij hj => ?_, hkd, ⟨h7.1, h7.2.1, fun q => ?_⟩, h18, h29.1, h29.2, h30⟩
      · rw [e3a j hj, List.getElem?_eq_getElem hj, Option.getD_some]
        have := hls _ (List.getElem_mem hj)
        omega
      · rw [e3a j hj, e3a i (by omega), List.getElem?_eq_getElem hj, List.getElem?_eq_getElem (by omega), Option.getD_some, Option.getD_some]
        exact List.pairwise_iff_getElem.mp (List.nodup_iff_pairwise_ne.mp hnd) i j (by omega) hj hij
      · have hl : 1 ≤ ls.length := by
          rcases q with q | q
          · exact (hshp.2.2.1 (Or.inr (Or.inr q))).1
          · have := hshp.2.2.2.1 q; omega
        rw [e3a _ (by omega)]; exact h7.2.2 q
    · rw [vu_n hu, vu_n hu, vu_n hu, vu_n hu, vu_n hu, vu_n hu, vu_n hu]
      obtain ⟨s1, s2, s3, s4, s5, s6⟩ := h2.2 t h1 (by omega)
      refine ⟨s1, fun j hj => ?_, fun i j hij hj => ?_, s4, ⟨s5.1, s5.2.1, fun q => ?_⟩, s6⟩
      · rw [e3b _ (by omega)]; exact s2 j hj
      · rw [e3b _ (by omega), e3b _ (by omega)]; exact s3 i j hij hj
      · rw [e3b _ (by omega)]; exact s5.2.2 q
  · show iZ (n + 1) _ _ _ _ _ _ _ _ _ _ _ _ _ _ _
    rw [e4, e7, e 8 rfl, e 9 rfl, e 10 rfl, e 13 rfl, e 21 rfl, e 22 rfl, e 25 rfl, e 26 rfl, e 27 rfl, e29, e30, o 14 rfl, o 11 rfl]
    intro u q1 q2
    have hu : u ≠ n + 1 := by omega
    rw [vu_n hu, vu_n hu, vu_n hu, vu_n hu]
    exact h3 u (by omega) q2
  · show iD (n + 1) 12 _ _ _ _ _ _ _ _
    rw [e2, e 8 rfl, e19, e 21 rfl, e 24 rfl, e 25 rfl, e 27 rfl, e29]
    intro u q1 q2
    by_cases hu : u = n + 1
    · subst hu
      rw [vu_s, vu_s, vu_s, z3, z7, y3]
      refine ⟨by decide, Nat.zero_le _, fun _ => rfl, by omega, fun q => ⟨by have := (h19 q).1; omega, fun _ => ⟨fun q3 => by have := (h19 q).1; omega, fun _ => rfl, fun q3 => by have := (h19 q).1; omega, fun q3 => by have := (h19 q).1; omega, fun q3 => by have := (h19 q).1; omega, (h19 q).2⟩⟩⟩
    · rw [vu_n hu, vu_n hu, vu_n hu]; exact h4 u q1 (by omega)
  · show iE (n + 1) _ _ _ _
    rw [e 16 rfl, e 8 rfl, e 10 rfl, e 15 rfl]
    obtain ⟨p1, p2, p3, p4, p5⟩ := h5
    refine ⟨fun p q1 q2 => ?_, fun s q1 q2 q3 => ?_, ?_, p4, p5⟩
    · have := p1 p q1 q2
      exact ⟨this.1, by omega, this.2.2⟩
    · by_cases hs : s = n + 1
      · subst hs; exact absurd z3 q3
      · exact p2 s q1 (by omega) q3
    · rw [sumN, if_pos z3]; exact p3
  · show iF (n + 1) _ _ _ _ _ _ _ _ _ _ _
    rw [e 38 rfl, e 40 rfl, e 8 rfl, e 12 rfl, e 27 rfl, e 31 rfl, e 33 rfl, e 36 rfl, e 37 rfl, e 39 rfl, o 35 rfl]
    refine ⟨h6.1, h6.2.1, fun u q1 q2 q3 => ?_, fun u q1 q2 j q3 => ?_⟩
    · by_cases hu : u = n + 1
      · subst hu; omega
      · exact h6.2.2.1 u q1 (by omega) q3
    · by_cases hu : u = n + 1
      · subst hu; omega
      · exact h6.2.2.2 u q1 (by omega) j q3
  · show iB (n + 1) _ _ _ _ _ _ _ _ _ _ _ _
    rw [e 16 rfl, e 38 rfl, e 40 rfl, e 53 rfl, e2, e 8 rfl, e19, e 21 rfl, e 24 rfl, e 27 rfl]
    obtain ⟨b1, b2, b3⟩ := h7'
    refine ⟨by rw [sumN]; omega, b2, ?_⟩
    rw [sumN]
    have q := sumN_congr (f := fun j => nN M 21 (j + 1) + nN M 27 (j + 1) + nst (va_up (nN M 2) (n + 1) so (j + 1)) (nN M 8 (j + 1)) (va_up (nN M 19) (n + 1) v19 (j + 1)) (nN M 24 (j + 1))) (g := fun j => nN M 21 (j + 1) + nN M 27 (j + 1) + nst (nN M 2 (j + 1)) (nN M 8 (j + 1)) (nN M 19 (j + 1)) (nN M 24 (j + 1))) (n := n) (fun j hj => by
      show nN M 21 (j + 1) + nN M 27 (j + 1) + nst (va_up (nN M 2) (n + 1) so (j + 1)) (nN M 8 (j + 1)) (va_up (nN M 19) (n + 1) v19 (j + 1)) (nN M 24 (j + 1)) = _
      rw [vu_n (by omega), vu_n (by omega)])
    omega
  · show iP (n + 1) k _ _ _ _ _
    rw [e2, e 8 rfl, e19, e 25 rfl, ep]
    intro c hc
    obtain ⟨p1, p2, p3⟩ := h8 c hc
    refine ⟨p1, p2, fun u hu => ?_⟩
    have q := p3 u hu
    have hne : u ≠ n + 1 := by omega
    rw [vu_n hne, vu_n hne]
    exact ⟨q.1, by omega, q.2.2⟩
  · show iH _ _ _ _
    rw [e 44 rfl, e 41 rfl, e 42 rfl, e 43 rfl]; exact h9
/-- made, and its inputs taken -/
def mkF6 (f : Nat) : Bool := match f with | 1 => true | 2 => true | 3 => true | 4 => true | 5 => true | 6 => true | _ => false
def MkE (n : Nat) (M M' : MS) (so kd : Nat) (am : Int32) (ls : List Nat) : Prop := NT exM M' ∧ nN M' 1 0 = n + 1 ∧ nN M' 2 = va_up (nN M 2) (n + 1) so ∧ nN M' 5 = va_up (nN M 5) (n + 1) kd ∧ M' 6 = va_up (M 6) (n + 1) am ∧ nN M' 4 = va_up (nN M 4) (n + 1) ls.length ∧ (∀ j, j < ls.length → nN M' 3 (24 * (n + 1) + j) = ls[j]?.getD 0) ∧ (∀ i, i < 24 * (n + 1) → nN M' 3 i = nN M 3 i) ∧ ∀ f, mkF6 f = false → M' f = M f
theorem mk_E {so kd : Nat} {am : Int32} (hN : NT exM M) (hn : n + 1 ≤ 200) (h4 : nN M 4 (n + 1) = 0) (hso : so < 2 ^ 31) (hkd : kd < 2 ^ 31) : MkE n M (madeM M n (nI so) (nI kd) am) so kd am [] := by
  unfold madeM
  refine ⟨(((hN.upn (by omega)).upn hso).upn hkd).upx rfl, ?_, ?_, ?_, ?_, ?_, fun j hj => absurd hj (Nat.not_lt_zero j), fun i _ => ?_, fun f hf => ?_⟩
  · rw [nN_f (by decide), nN_f (by decide), nN_f (by decide), nN_sn (by omega), vu_s]
  · rw [nN_f (by decide), nN_f (by decide), nN_sn hso, nN_f (by decide)]
  · rw [nN_f (by decide), nN_sn hkd, nN_f (by decide), nN_f (by decide)]
  · rw [up2_va, up2_f (by decide), up2_f (by decide), up2_f (by decide)]
  · rw [nN_f (by decide), nN_f (by decide), nN_f (by decide), nN_f (by decide), List.length_nil, ← h4, vu_id]
  · rw [nN_f (by decide), nN_f (by decide), nN_f (by decide), nN_f (by decide)]
  · rw [up2_f (fne hf rfl), up2_f (fne hf rfl), up2_f (fne hf rfl), up2_f (fne hf rfl)]
theorem MkE.in {so kd : Nat} {am : Int32} {ls : List Nat} (E : MkE n M M' so kd am ls) : inL M' (n + 1) = ls := by
  have e4 : kI M' (n + 1) = ls.length := by show nN M' 4 (n + 1) = _; rw [E.2.2.2.2.2.1, vu_s]
  rw [inL, e4]
  refine List.ext_getElem (by rw [List.length_map, List.length_range]) (fun j h1 h2 => ?_)
  rw [List.getElem_map, List.getElem_range]
  show nN M' 3 (24 * (n + 1) + j) = _
  rw [E.2.2.2.2.2.2.1 j h2, List.getElem?_eq_getElem h2, Option.getD_some]
theorem tk_Mk {so kd u : Nat} {am : Int32} {ls : List Nat} (E : MkE n M M' so kd am ls) (hu : u < 2 ^ 31) (hl : ls.length < 24) : MkE n M (takM M' (n + 1) (nI u)) so kd am (if u ∈ ls then ls else ls ++ [u]) := by
  have hin := E.in
  have hp := inp_iff (t := n + 1) E.1 hu
  rw [hin] at hp
  unfold takM
  by_cases h : u ∈ ls
  · rw [if_pos (hp.mpr h), if_pos h]; exact E
  · rw [if_neg (fun q => h (hp.mp q)), if_neg h]
    have e4 : kI M' (n + 1) = ls.length := by show nN M' 4 (n + 1) = _; rw [E.2.2.2.2.2.1, vu_s]
    rw [e4]
    obtain ⟨E0, E1, E2, E5, E6, E4, E3, E3b, Ef⟩ := E
    have hl2 : (ls ++ [u]).length = ls.length + 1 := by simp
    refine ⟨(E0.upn hu).upn (by omega), ?_, ?_, ?_, ?_, ?_, fun j hj => ?_, fun i hi => ?_, fun f hf => ?_⟩
    · rw [nN_f (by decide), nN_f (by decide)]; exact E1
    · rw [nN_f (by decide), nN_f (by decide)]; exact E2
    · rw [nN_f (by decide), nN_f (by decide)]; exact E5
    · rw [up2_f (by decide), up2_f (by decide)]; exact E6
    · rw [nN_sn (by omega), nN_f (by decide), E4, hl2]
      funext i
      by_cases hi : i = n + 1
      · subst hi; rw [vu_s, vu_s]
      · rw [vu_n hi, vu_n hi, vu_n hi]
    · rw [nN_f (by decide), nN_sn hu]
      by_cases hj2 : j = ls.length
      · subst hj2; rw [vu_s]; simp
      · rw [hl2] at hj
        rw [vu_n (by omega), E3 j (by omega), List.getElem?_append_left (by omega)]
    · rw [nN_f (by decide), nN_sn hu, vu_n (by omega)]; exact E3b i hi
    · rw [up2_f (fne hf rfl), up2_f (fne hf rfl)]; exact Ef f hf
end NEWS
