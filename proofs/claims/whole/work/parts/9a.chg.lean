/-! other changes that keep the invariant of the reference -/
section CHGS
variable {n k w x x' y y' : Nat} {M M' : MS}
/-- fields that the invariant does not speak of -/
def irr (f : Nat) : Bool := match f with | 6 => true | 17 => true | 20 => true | 23 => true | 28 => true | 32 => true | 34 => true | 48 => true | 49 => true | 50 => true | 51 => true | 52 => true | 54 => true | 55 => true | 56 => true | 57 => true | 58 => true | 59 => true | 60 => true | 61 => true | 62 => true | 63 => true | 64 => true | 65 => true | _ => false
def ir5 (f : Nat) : Bool := match f with | 53 => true | f => irr f
theorem Inv.cg5 (hI : Inv n k w x y M) (hN : NT exM M') (o : ∀ f, ir5 f = false → M' f = M f) (hg : nN M' 53 0 + y ≤ nN M 53 0 + y') : Inv n k w x y' M' := by
  have e : ∀ f, ir5 f = false → nN M' f = nN M f := fun f h => nN_e (o f h)
  have ep : plM M' = plM M := funext (fun c => pl_e (o 46 rfl) (o 47 rfl))
  obtain ⟨h0, ⟨a1, a2, a3, a4, a5, a6, a7⟩, h2, h3, h4, h5, h6, h7, h8, h9⟩ := hI
  refine ⟨hN, ⟨a1, a2, a3, a4, by rw [e 1 rfl]; exact a5, by rw [e 45 rfl]; exact a6, by rw [e 0 rfl]; exact a7⟩, ?_, ?_, ?_, ?_, ?_, ?_, ?_, ?_⟩
  · show iS n _ _ _ _ _ _ _ _
    rw [e 2 rfl, e 3 rfl, e 4 rfl, e 5 rfl, e 7 rfl, e 18 rfl, e 29 rfl, e 30 rfl]; exact h2
  · show iZ n _ _ _ _ _ _ _ _ _ _ _ _ _ _ _
    rw [e 4 rfl, e 7 rfl, e 8 rfl, e 9 rfl, e 10 rfl, e 13 rfl, e 21 rfl, e 22 rfl, e 25 rfl, e 26 rfl, e 27 rfl, e 29 rfl, e 30 rfl, o 14 rfl, o 11 rfl]; exact h3
  · show iD n 12 _ _ _ _ _ _ _ _
    rw [e 2 rfl, e 8 rfl, e 19 rfl, e 21 rfl, e 24 rfl, e 25 rfl, e 27 rfl, e 29 rfl]; exact h4
  · show iE n _ _ _ _
    rw [e 16 rfl, e 8 rfl, e 10 rfl, e 15 rfl]; exact h5
  · show iF n _ _ _ _ _ _ _ _ _ _ _
    rw [e 38 rfl, e 40 rfl, e 8 rfl, e 12 rfl, e 27 rfl, e 31 rfl, e 33 rfl, e 36 rfl, e 37 rfl, e 39 rfl, o 35 rfl]; exact h6
  · show iB n _ _ _ _ _ _ _ _ _ _ _ _
    rw [e 16 rfl, e 38 rfl, e 40 rfl, e 2 rfl, e 8 rfl, e 19 rfl, e 21 rfl, e 24 rfl, e 27 rfl]; exact ⟨h7.1, h7.2.1, by have := h7.2.2; omega⟩
  · show iP n k _ _ _ _ _
    rw [e 2 rfl, e 8 rfl, e 19 rfl, e 25 rfl, ep]; exact h8
  · show iH _ _ _ _
    rw [e 44 rfl, e 41 rfl, e 42 rfl, e 43 rfl]; exact h9
theorem ir5_c {f : Nat} (h : ir5 f = false) : irr f = false := by
  unfold ir5 at h
  split at h
  · cases h
  · exact h
theorem Inv.cg (hI : Inv n k w x y M) (hN : NT exM M') (o : ∀ f, irr f = false → M' f = M f) : Inv n k w x y M' := hI.cg5 hN (fun f hf => o f (ir5_c hf)) (by rw [nN_e (o 53 rfl)]; exact Nat.le_refl _)
def chF9 (f : Nat) : Bool := match f with | 19 => true | 21 => true | 22 => true | 24 => true | 25 => true | 27 => true | 31 => true | 46 => true | 47 => true | 53 => true | f => irr f
theorem chF9_c {f c : Nat} (h : chF9 f = false) (hc : chF9 c = true) : f ≠ c := fne h hc
/-- how an open stage t stands is changed -/
theorem Inv.chg {t v19 v21 v24 v25 v27 : Nat} (hI : Inv n k w x y M) (h1t : 1 ≤ t) (ht : t ≤ n) (ho : nN M 8 t = 0) (hN : NT exM M') (o : ∀ f, chF9 f = false → M' f = M f)
    (e19 : nN M' 19 = va_up (nN M 19) t v19) (e21 : nN M' 21 = va_up (nN M 21) t v21) (e22 : ∀ u, u ≠ t → nN M' 22 u = nN M 22 u) (e24 : nN M' 24 = va_up (nN M 24) t v24) (e25 : nN M' 25 = va_up (nN M 25) t v25) (e27 : nN M' 27 = va_up (nN M 27) t v27)
    (hd : dyn 12 (nN M 2 t) 0 v19 v21 v24 v25 v27 (nN M 29 t)) (hx : x + nN M 27 t ≤ x' + v27) (ha : nN M 40 0 ≤ 24 * (nN M 16 0 + x'))
    (e31 : ∀ u, 1 ≤ u → u ≤ n → ∀ j, j < va_up (nN M 27) t v27 u → nN M' 31 (6 * u + j) < nN M 38 0)
    (hg : nN M' 53 0 + y + (nN M 21 t + nN M 27 t + nst (nN M 2 t) 0 (nN M 19 t) (nN M 24 t)) ≤ nN M 53 0 + y' + (v21 + v27 + nst (nN M 2 t) 0 v19 v24))
    (hp : iP n k (nN M 2) (nN M 8) (va_up (nN M 19) t v19) (va_up (nN M 25) t v25) (plM M')) : Inv n k w x' y' M' := by
  have e : ∀ f, chF9 f = false → nN M' f = nN M f := fun f h => nN_e (o f h)
  obtain ⟨h0, ⟨a1, a2, a3, a4, a5, a6, a7⟩, h2, h3, h4, h5, h6, h7, h8, h9⟩ := hI
  refine ⟨hN, ⟨a1, a2, a3, a4, by rw [e 1 rfl]; exact a5, by rw [e 45 rfl]; exact a6, by rw [e 0 rfl]; exact a7⟩, ?_, ?_, ?_, ?_, ?_, ?_, ?_, ?_⟩
  · show iS n _ _ _ _ _ _ _ _
    rw [e 2 rfl, e 3 rfl, e 4 rfl, e 5 rfl, e 7 rfl, e 18 rfl, e 29 rfl, e 30 rfl]; exact h2
  · show iZ n _ _ _ _ _ _ _ _ _ _ _ _ _ _ _
    rw [e 4 rfl, e 7 rfl, e 8 rfl, e 9 rfl, e 10 rfl, e 13 rfl, e21, e25, e 26 rfl, e27, e 29 rfl, e 30 rfl, o 14 rfl, o 11 rfl]
    intro u q1 q2
    have hu : u ≠ t := by omega
    obtain ⟨⟨z1, z2, z3, z4, z5, z6, z7, z8⟩, y1, y2, y3, y4, y5, y6, y7⟩ := h3 u q1 q2
    exact ⟨⟨z1, z2, z3, z4, z5, z6, by rw [vu_n hu]; exact z7, by rw [e22 u hu]; exact z8⟩, by rw [vu_n hu]; exact y1, y2, by rw [vu_n hu]; exact y3, y4, y5, y6, y7⟩
  · show iD n 12 _ _ _ _ _ _ _ _
    rw [e 2 rfl, e 8 rfl, e19, e21, e24, e25, e27, e 29 rfl]
    intro u q1 q2
    by_cases hu : u = t
    · subst hu; rw [vu_s, vu_s, vu_s, vu_s, vu_s, ho]; exact hd
    · rw [vu_n hu, vu_n hu, vu_n hu, vu_n hu, vu_n hu]; exact h4 u q1 q2
  · show iE n _ _ _ _
    rw [e 16 rfl, e 8 rfl, e 10 rfl, e 15 rfl]; exact h5
  · show iF n _ _ _ _ _ _ _ _ _ _ _
    rw [e 38 rfl, e 40 rfl, e 8 rfl, e 12 rfl, e27, e 33 rfl, e 36 rfl, e 37 rfl, e 39 rfl, o 35 rfl]
    exact ⟨h6.1, h6.2.1, h6.2.2.1, e31⟩
  · show iB n _ _ _ _ _ _ _ _ _ _ _ _
    rw [e 16 rfl, e 38 rfl, e 40 rfl, e 2 rfl, e 8 rfl, e19, e21, e24, e27]
    obtain ⟨b1, b2, b3⟩ := h7
    have q := sumN_one (f := fun j => va_up (nN M 27) t v27 (j + 1)) (g := fun j => nN M 27 (j + 1)) (i := t - 1) (n := n) (by omega) (fun j _ hj => vu_n (by omega))
    have q2 := sumN_one (f := fun j => va_up (nN M 21) t v21 (j + 1) + va_up (nN M 27) t v27 (j + 1) + nst (nN M 2 (j + 1)) (nN M 8 (j + 1)) (va_up (nN M 19) t v19 (j + 1)) (va_up (nN M 24) t v24 (j + 1))) (g := fun j => nN M 21 (j + 1) + nN M 27 (j + 1) + nst (nN M 2 (j + 1)) (nN M 8 (j + 1)) (nN M 19 (j + 1)) (nN M 24 (j + 1))) (i := t - 1) (n := n) (by omega) (fun j _ hj => by
      show va_up (nN M 21) t v21 (j + 1) + va_up (nN M 27) t v27 (j + 1) + nst (nN M 2 (j + 1)) (nN M 8 (j + 1)) (va_up (nN M 19) t v19 (j + 1)) (va_up (nN M 24) t v24 (j + 1)) = _
      rw [vu_n (by omega), vu_n (by omega), vu_n (by omega), vu_n (by omega)])
    simp only [show t - 1 + 1 = t by omega, vu_s, ho] at q q2
    exact ⟨by omega, ha, by omega⟩
  · show iP n k _ _ _ _ _
    rw [e 2 rfl, e 8 rfl, e19, e25]; exact hp
  · show iH _ _ _ _
    rw [e 44 rfl, e 41 rfl, e 42 rfl, e 43 rfl]; exact h9
theorem vu_id {α : Type} {f : Nat → α} {i : Nat} : va_up f i (f i) = f := by
  funext j
  by_cases h : j = i
  · subst h; rw [vu_s]
  · rw [vu_n h]
theorem Inv.ab (hI : Inv n k w 0 y M) : nN M 40 0 ≤ 24 * (nN M 16 0 + 0) := hI.b.2.1
/-- made ready -/
theorem Inv.rdy {t : Nat} (hI : Inv n k w 0 y M) (h1t : 1 ≤ t) (ht : t ≤ n) (ho : nN M 8 t = 0) (h9 : 9 ≤ nN M 2 t) (hw : nN M 19 t = 0 ∨ nN M 19 t = 4) : Inv n k w 0 y (up2 (up2 M 19 t (nI 1)) 20 t (M 0 0)) := by
  have d := hI.d t h1t ht
  have d2 := (d.2.2.2.2 h9).2 ho
  refine hI.chg (v19 := 1) (v21 := nN M 21 t) (v24 := nN M 24 t) (v25 := nN M 25 t) (v27 := nN M 27 t) h1t ht ho ((hI.nt.upn (by decide)).up (fun _ => hI.nt 0 0 rfl)) (fun f hf => by rw [up2_f (fne hf rfl), up2_f (fne hf rfl)]) ?_ ?_ (fun u _ => ?_) ?_ ?_ ?_ ?_ (Nat.le_refl _) hI.ab ?_ ?_ ?_
  · rw [nN_f (by decide), nN_sn (by decide)]
  · rw [vu_id, nN_f (by decide), nN_f (by decide)]
  · rw [nN_f (by decide), nN_f (by decide)]
  · rw [vu_id, nN_f (by decide), nN_f (by decide)]
  · rw [vu_id, nN_f (by decide), nN_f (by decide)]
  · rw [vu_id, nN_f (by decide), nN_f (by decide)]
  · exact ⟨by decide, d.2.1, d.2.2.1, d.2.2.2.1, fun _ => ⟨by decide, fun _ => ⟨fun q => by omega, fun _ => d2.2.1 (by omega), fun q => by omega, fun q => by omega, fun q => by omega, fun q => by omega⟩⟩⟩
  · rw [vu_id, nN_f (by decide), nN_f (by decide)]; exact hI.f.2.2.2
  · rw [nN_f (by decide), nN_f (by decide)]
    have : nst (nN M 2 t) 0 (nN M 19 t) (nN M 24 t) = 0 := by
      unfold nst
      rcases hw with q | q
      · have := d2.2.2.2.2.2 q; rw [if_neg (by omega)]
      · have := (d2.2.2.2.1 q).1; rw [if_neg (by omega)]
    omega
  · rw [vu_id]
    intro c hc
    rw [pl_e (M := M) (by rw [up2_f (by decide), up2_f (by decide)]) (by rw [up2_f (by decide), up2_f (by decide)])]
    obtain ⟨p1, p2, p3⟩ := hI.p c hc
    refine ⟨p1, p2, fun u hu => ?_⟩
    have q := p3 u hu
    have hne : u ≠ t := fun q2 => by subst q2; omega
    rw [vu_n hne]
    exact q
end CHGS
