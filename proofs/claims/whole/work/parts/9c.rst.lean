/-! a note alone, waiting, the second part, a pause: in the reference -/
section RSTS
variable {n k w x x' y y' : Nat} {M M' : MS}
theorem no_of {p : Nat → Bool} {f : Nat} (h : p f = false) (h0 : p 50 = true) (h1 : p 51 = true) (h2 : p 52 = true) (h3 : p 53 = true) : noF f = false := by
  cases hq : noF f
  · rfl
  · unfold noF at hq
    split at hq
    · rw [h0] at h; cases h
    · rw [h1] at h; cases h
    · rw [h2] at h; cases h
    · rw [h3] at h; cases h
    · cases hq
theorem Inv.note {t ev : Nat} (hI : Inv n k w x 0 M) (hx : x ≤ 1) (ht : t ≤ 200) (hev : ev ≤ 7) : Inv n k w x 1 (noteM M (nN M 53 0) (nI t) (nI ev)) ∧ lgE M (noteM M (nN M 53 0) (nI t) (nI ev)) t ev ∧ NT exM (noteM M (nN M 53 0) (nI t) (nI ev)) ∧ ∀ f, noF f = false → noteM M (nN M 53 0) (nI t) (nI ev) f = M f := by
  have bd := hI.bd hx (by decide)
  obtain ⟨a, b, c⟩ := note_nn (g := nN M 53 0) (t := t) (ev := ev) hI.nt (by omega) (by omega) (by omega)
  exact ⟨hI.cg5 b (fun f hf => c f (no_of hf rfl rfl rfl rfl)) (by rw [a.2.2.2]; omega), a, b, c⟩
def wtF9 (f : Nat) : Bool := match f with | 19 => true | 50 => true | 51 => true | 52 => true | 53 => true | _ => false
def WtE (M M' : MS) (t : Nat) : Prop := nN M' 19 = va_up (nN M 19) t 3 ∧ lgE M M' t 5 ∧ NT exM M' ∧ ∀ f, wtF9 f = false → M' f = M f
theorem iP.same {a2 a8 a19 a25 : Nat → Nat} {pl : Nat → List Nat} {t v : Nat} (h : iP n k a2 a8 a19 a25 pl) (hv : v = 2 ∨ v = 3) : iP n k a2 a8 (va_up a19 t v) a25 pl := by
  intro c hc
  obtain ⟨p1, p2, p3⟩ := h c hc
  refine ⟨p1, p2, fun u hu => ?_⟩
  obtain ⟨q1, q2, q3, q4, q5, q6⟩ := p3 u hu
  refine ⟨q1, q2, q3, q4, ?_, q6⟩
  by_cases hut : u = t
  · subst hut; rw [vu_s]; exact hv
  · rw [vu_n hut]; exact q5
theorem wt_E {t : Nat} (hI : Inv n k w 0 0 M) (h1t : 1 ≤ t) (ht : t ≤ n) (ho : nN M 8 t = 0) (h9 : 9 ≤ nN M 2 t) (hw : nN M 19 t = 2) (hp : nN M 24 t = 1) : WtE M (hlfW M t) t ∧ Inv n k w 0 0 (hlfW M t) := by
  have bd := hI.bd (by decide) (by decide)
  have hn := hI.a.1
  unfold hlfW
  have N1 : NT exM (up2 M 19 t (nI 3)) := hI.nt.upn (by decide)
  obtain ⟨a, b, c⟩ := note_nn (g := nN M 53 0) (t := t) (ev := 5) N1 (by omega) (by omega) (by decide)
  rw [nN_f (by decide), nN_f (by decide), nN_f (by decide), nN_f (by decide)] at a
  have E : WtE M (noteM (up2 M 19 t (nI 3)) (nN M 53 0) (nI t) (nI 5)) t := ⟨by rw [nN_e (c 19 rfl), nN_sn (by decide)], a, b, fun f hf => by rw [c f (no_of hf rfl rfl rfl rfl), up2_f (fne hf rfl)]⟩
  refine ⟨E, ?_⟩
  have d := hI.d t h1t ht
  have d2 := (d.2.2.2.2 h9).2 ho
  have d3 := d2.1 (Or.inl hw)
  have h11 := d2.2.2.2.2.1 hw hp
  refine hI.chg (v19 := 3) (v21 := nN M 21 t) (v24 := nN M 24 t) (v25 := nN M 25 t) (v27 := nN M 27 t) h1t ht ho b (fun f hf => E.2.2.2 f ?_) E.1 (by rw [vu_id, nN_e (E.2.2.2 21 rfl)]) (fun u _ => by rw [nN_e (E.2.2.2 22 rfl)]) (by rw [vu_id, nN_e (E.2.2.2 24 rfl)]) (by rw [vu_id, nN_e (E.2.2.2 25 rfl)]) (by rw [vu_id, nN_e (E.2.2.2 27 rfl)]) ?_ (Nat.le_refl _) hI.ab ?_ ?_ ?_
  · cases hq : wtF9 f
    · rfl
    · unfold wtF9 at hq
      split at hq <;> first | (exact absurd hf (by decide)) | cases hq
  · exact ⟨by decide, d.2.1, d.2.2.1, d.2.2.2.1, fun _ => ⟨by decide, fun _ => ⟨fun _ => d3, fun q => by omega, fun _ => h11, fun q => by omega, fun q => by omega, fun q => by omega⟩⟩⟩
  · rw [vu_id, nN_e (E.2.2.2 31 rfl)]; exact hI.f.2.2.2
  · rw [a.2.2.2, hw, hp, h11]
    show nN M 53 0 + 1 + 0 + (nN M 21 t + nN M 27 t + 0) ≤ nN M 53 0 + 0 + (nN M 21 t + nN M 27 t + 1)
    omega
  · rw [vu_id, show plM (noteM (up2 M 19 t (nI 3)) (nN M 53 0) (nI t) (nI 5)) = plM M from funext (fun c => pl_e (E.2.2.2 46 rfl) (E.2.2.2 47 rfl))]
    exact hI.p.same (Or.inr rfl)
def seF (f : Nat) : Bool := match f with | 19 => true | 23 => true | 24 => true | _ => false
def SeE (M M' : MS) (t : Nat) : Prop := nN M' 19 = va_up (nN M 19) t 2 ∧ nN M' 24 = va_up (nN M 24) t 2 ∧ nN M' 23 = va_up (nN M 23) t (nN M 0 0 + nN M 18 t - nN M 18 t / 2) ∧ NT exM M' ∧ ∀ f, seF f = false → M' f = M f
theorem se_E {t : Nat} (hI : Inv n k w 0 y M) (h1t : 1 ≤ t) (ht : t ≤ n) (ho : nN M 8 t = 0) (h11 : nN M 2 t = 11) (hw : nN M 19 t = 2 ∨ nN M 19 t = 3) (hy : y + nst 11 0 (nN M 19 t) (nN M 24 t) ≤ y' + 2) : SeE M (gonV M t) t ∧ Inv n k w 0 y' (gonV M t) := by
  have h9 : 9 ≤ nN M 2 t := by omega
  have h18 := (hI.s.2 t h1t ht).2.2.2.2.2.1 h9
  have hw0 : nN M 0 0 = w ∧ w ≤ 10000 := ⟨hI.a.2.2.2.2.2.2, hI.a.2.2.2.1⟩
  have e23 : M 0 0 + M 18 t - M 18 t / nI 2 = nI (nN M 0 0 + nN M 18 t - nN M 18 t / 2) := by
    rw [hI.nt 0 0 rfl, hI.nt 18 t rfl, pk_div (nN_lt M 18 t) (by decide) (by decide), nI_add, pk_sub (by omega)]
  unfold gonV
  rw [e23]
  have E : SeE M (up2 (up2 (up2 M 19 t (nI 2)) 24 t (nI 2)) 23 t (nI (nN M 0 0 + nN M 18 t - nN M 18 t / 2))) t := by
    refine ⟨?_, ?_, ?_, ((hI.nt.upn (by decide)).upn (by decide)).upn (by omega), fun f hf => ?_⟩
    · rw [nN_f (by decide), nN_f (by decide), nN_sn (by decide)]
    · rw [nN_f (by decide), nN_sn (by decide), nN_f (by decide)]
    · rw [nN_sn (by omega), nN_f (by decide), nN_f (by decide)]
    · rw [up2_f (fne hf rfl), up2_f (fne hf rfl), up2_f (fne hf rfl)]
  refine ⟨E, ?_⟩
  generalize up2 (up2 (up2 M 19 t (nI 2)) 24 t (nI 2)) 23 t (nI (nN M 0 0 + nN M 18 t - nN M 18 t / 2)) = M' at E ⊢
  have d := hI.d t h1t ht
  have d2 := (d.2.2.2.2 h9).2 ho
  have d3 := d2.1 hw
  obtain ⟨e19, e24, e23, hN, ef⟩ := E
  refine hI.chg (v19 := 2) (v21 := nN M 21 t) (v24 := 2) (v25 := nN M 25 t) (v27 := nN M 27 t) h1t ht ho hN (fun f hf => ef f ?_) e19 (by rw [vu_id, nN_e (ef 21 rfl)]) (fun u _ => by rw [nN_e (ef 22 rfl)]) e24 (by rw [vu_id, nN_e (ef 25 rfl)]) (by rw [vu_id, nN_e (ef 27 rfl)]) ?_ (Nat.le_refl _) hI.ab ?_ ?_ ?_
  · cases hq : seF f
    · rfl
    · unfold seF at hq
      split at hq <;> first | (exact absurd hf (by decide)) | cases hq
  · exact ⟨by decide, d.2.1, d.2.2.1, d.2.2.2.1, fun _ => ⟨by decide, fun _ => ⟨fun _ => d3, fun q => by omega, fun q => by omega, fun q => by omega, fun _ q => by omega, fun q => by omega⟩⟩⟩
  · rw [vu_id, nN_e (ef 31 rfl)]; exact hI.f.2.2.2
  · rw [nN_e (ef 53 rfl), h11, show nst 11 0 2 2 = 2 from rfl]
    omega
  · rw [vu_id, show plM M' = plM M from funext (fun c => pl_e (ef 46 rfl) (ef 47 rfl))]
    exact hI.p.same (Or.inl rfl)
theorem shl_s : ∀ a, a < 31 → ∀ p, p < 6 → nI a <<< (nI p &&& 31) = nI (a * 2 ^ p) := by decide +kernel
def pzF (f : Nat) : Bool := match f with | 19 => true | 27 => true | 28 => true | 31 => true | 33 => true | 34 => true | 35 => true | 36 => true | 37 => true | 38 => true | 46 => true | 47 => true | 50 => true | 51 => true | 52 => true | 53 => true | _ => false
def PzE (M M' : MS) (t kd : Nat) : Prop :=
  (nN M' 33 = va_up (nN M 33) (nN M 38 0) kd ∧ nN M' 34 = va_up (nN M 34) (nN M 38 0) t ∧ M' 35 = va_up (M 35) (nN M 38 0) (-1) ∧ nN M' 36 = va_up (nN M 36) (nN M 38 0) (nN M 40 0) ∧ nN M' 37 = va_up (nN M 37) (nN M 38 0) 0 ∧ nN M' 38 0 = nN M 38 0 + 1) ∧
  (nN M' 19 = va_up (nN M 19) t 4 ∧ nN M' 27 = va_up (nN M 27) t (nN M 27 t + 1) ∧ nN M' 28 = va_up (nN M 28) (6 * t + nN M 27 t) (nN M 0 0 + nN M 30 t * 2 ^ nN M 27 t) ∧ nN M' 31 = va_up (nN M 31) (6 * t + nN M 27 t) (nN M 38 0)) ∧
  lgE M M' t 7 ∧ (∀ c, c ≤ 12 → plM M' c = (plM M c).erase t) ∧ NT exM M' ∧ ∀ f, pzF f = false → M' f = M f
def paF (f : Nat) : Bool := match f with | 19 => true | 27 => true | 28 => true | 31 => true | 33 => true | 34 => true | 35 => true | 36 => true | 37 => true | 38 => true | _ => false
theorem newFM_o {f F : Nat} {a b c : Int32} (h3 : f ≠ 33) (h4 : f ≠ 34) (h5 : f ≠ 35) (h6 : f ≠ 36) (h7 : f ≠ 37) (h8 : f ≠ 38) : newFM M F a b c f = M f := by
  unfold newFM; rw [up2_f h8, up2_f h7, up2_f h6, up2_f h5, up2_f h4, up2_f h3]
theorem pz_pa {f : Nat} (h : pzF f = false) : paF f = false := by
  cases hq : paF f
  · rfl
  · unfold paF at hq
    split at hq <;> first | (exact absurd h (by decide)) | cases hq
theorem pz_E {t kd : Nat} (hI : Inv n k w 0 0 M) (h1t : 1 ≤ t) (ht : t ≤ n) (ho : nN M 8 t = 0) (h10 : nN M 2 t = 10) (hw : nN M 19 t = 2) (hk : kd ≤ 15) (hm : nN M 21 t ≤ nN M 29 t) : PzE M (flsP M t kd) t kd ∧ Inv n k w 0 0 (flsP M t kd) := by
  have h9 : 9 ≤ nN M 2 t := by omega
  have bd := hI.bd (by decide) (by decide)
  have hn := hI.a.1
  have hw0 : nN M 0 0 = w ∧ w ≤ 10000 := ⟨hI.a.2.2.2.2.2.2, hI.a.2.2.2.1⟩
  have hs := hI.s.2 t h1t ht
  have h29 := hs.2.2.2.2.2.2.1
  have h30 := hs.2.2.2.2.2.2.2.2
  have d := hI.d t h1t ht
  have d2 := (d.2.2.2.2 h9).2 ho
  have d3 := d2.1 (Or.inl hw)
  have hck : nN M 25 t ≤ 12 := by have := hI.a.2.2.1; omega
  have NF := nf_E (M := M) (kd := kd) (at' := t) (ca := -1) hI.nt (by omega) (by omega) (by omega)
  have I1 := NF.inv hI hk (by decide) (Or.inl rfl) (fun o ho => by cases ho)
  obtain ⟨n33, n34, n35, n36, n37, n38, n40, -, -, nN1, -⟩ := NF
  unfold flsP flsQ flsN
  have h2p : 2 ^ nN M 27 t ≤ 32 := Nat.pow_le_pow_right (n := 2) (by decide) (show nN M 27 t ≤ 5 by omega)
  have hmul : nN M 30 t * 2 ^ nN M 27 t ≤ 30 * 32 := Nat.mul_le_mul h30 h2p
  have e28 : M 0 0 + (M 30 t <<< (nI (nN M 27 t) &&& 31)) = nI (nN M 0 0 + nN M 30 t * 2 ^ nN M 27 t) := by
    rw [hI.nt 0 0 rfl, hI.nt 30 t rfl, shl_s _ (by omega) _ (by omega), nI_add]
  rw [e28]
  have nf : ∀ f, paF f = false → newFM M (nN M 38 0) (nI kd) (nI t) (-1) f = M f := fun f hf => newFM_o (fne hf rfl) (fne hf rfl) (fne hf rfl) (fne hf rfl) (fne hf rfl) (fne hf rfl)
  have nf2 : ∀ f, f = 19 ∨ f = 27 ∨ f = 28 ∨ f = 31 → newFM M (nN M 38 0) (nI kd) (nI t) (-1) f = M f := fun f hf => newFM_o (by omega) (by omega) (by omega) (by omega) (by omega) (by omega)
  generalize newFM M (nN M 38 0) (nI kd) (nI t) (-1) = M1 at n33 n34 n35 n36 n37 n38 n40 nN1 nf nf2 I1 ⊢
  have c19 := nN_e (nf2 19 (by decide))
  have c27 := nN_e (nf2 27 (by decide))
  have c28 := nN_e (nf2 28 (by decide))
  have c31 := nN_e (nf2 31 (by decide))
  generalize hM2 : up2 (up2 (up2 (up2 M1 31 (6 * t + nN M 27 t) (nI (nN M 38 0))) 28 (6 * t + nN M 27 t) (nI (nN M 0 0 + nN M 30 t * 2 ^ nN M 27 t))) 27 t (nI (nN M 27 t + 1))) 19 t (nI 4) = M2
  have o2 : ∀ f, f ≠ 19 → f ≠ 27 → f ≠ 28 → f ≠ 31 → M2 f = M1 f := fun f a b c d => by rw [← hM2, up2_f a, up2_f b, up2_f c, up2_f d]
  have N2 : NT exM M2 := by rw [← hM2]; exact (((nN1.upn (by omega)).upn (by omega)).upn (by omega)).upn (by decide)
  have o3 : ∀ f, paF f = false → M2 f = M f := fun f hf => by rw [o2 f (fne hf rfl) (fne hf rfl) (fne hf rfl) (fne hf rfl), nf f hf]
  have u19 : nN M2 19 = va_up (nN M 19) t 4 := by rw [← hM2, nN_sn (by decide), nN_f (by decide), nN_f (by decide), nN_f (by decide), c19]
  have u27 : nN M2 27 = va_up (nN M 27) t (nN M 27 t + 1) := by rw [← hM2, nN_f (by decide), nN_sn (by omega), nN_f (by decide), nN_f (by decide), c27]
  have u28 : nN M2 28 = va_up (nN M 28) (6 * t + nN M 27 t) (nN M 0 0 + nN M 30 t * 2 ^ nN M 27 t) := by rw [← hM2, nN_f (by decide), nN_f (by decide), nN_sn (by omega), nN_f (by decide), c28]
  have u31 : nN M2 31 = va_up (nN M 31) (6 * t + nN M 27 t) (nN M 38 0) := by rw [← hM2, nN_f (by decide), nN_f (by decide), nN_f (by decide), nN_sn (by omega), c31]
  have e25 : nN M2 25 = nN M 25 := nN_e (o3 25 rfl)
  have epl : ∀ c, plM M2 c = plM M c := fun c => pl_e (o3 46 rfl) (o3 47 rfl)
  obtain ⟨l1, l2, l3, l4⟩ := lev_pl (M := M2) (s := t) N2 (by omega) (by rw [e25]; exact hck) (fun c hc2 => by rw [nN_e (o3 47 rfl)]; exact hI.q47 c hc2) (by rw [epl, e25]; exact (hI.p _ hck).1)
  rw [e25] at l1 l2
  obtain ⟨a, b, c⟩ := note_nn (M := levM M2 t) (g := nN M 53 0) (t := t) (ev := 7) l3 (by omega) (by omega) (by decide)
  have q : ∀ f, noF f = false → f ≠ 46 → f ≠ 47 → noteM (levM M2 t) (nN M 53 0) (nI t) (nI 7) f = M2 f := fun f x1 x2 x3 => by rw [c f x1, l4 f x2 x3]
  have g5 : ∀ f, noF f = true → nN (levM M2 t) f = nN M f := fun f hf => by
    have hne : ∀ c, noF c = false → f ≠ c := fun c hc q => by rw [q, hc] at hf; cases hf
    rw [nN_e (l4 f (hne 46 rfl) (hne 47 rfl)), nN_e (o2 f (hne 19 rfl) (hne 27 rfl) (hne 28 rfl) (hne 31 rfl)), nN_e (nf f (by cases hq : paF f; rfl; exact absurd hf (by unfold paF at hq; split at hq <;> first | decide | cases hq)))]
  have e0 : nN (levM M2 t) 0 = nN M 0 := by rw [nN_e (l4 0 (by decide) (by decide)), nN_e (o3 0 rfl)]
  rw [g5 50 rfl, g5 51 rfl, g5 52 rfl, e0] at a
  have q2 : ∀ f, pzF f = false → noteM (levM M2 t) (nN M 53 0) (nI t) (nI 7) f = M f := fun f hf => by rw [q f (no_of hf rfl rfl rfl rfl) (fne hf rfl) (fne hf rfl), o3 f (pz_pa hf)]
  have v19 := nN_e (q 19 rfl (by decide) (by decide))
  have v27 := nN_e (q 27 rfl (by decide) (by decide))
  have v28 := nN_e (q 28 rfl (by decide) (by decide))
  have v31 := nN_e (q 31 rfl (by decide) (by decide))
  have vpl : ∀ c, c ≤ 12 → plM (noteM (levM M2 t) (nN M 53 0) (nI t) (nI 7)) c = (plM M c).erase t := fun c9 hc9 => by
    rw [pl_e (c 46 rfl) (c 47 rfl)]
    by_cases h5 : c9 = nN M 25 t
    · subst h5; rw [l1, epl]
    · rw [l2 c9 hc9 h5, epl, List.erase_of_not_mem]
      intro hm
      exact h5 ((hI.p c9 hc9).2.2 t hm).2.2.2.2.2.symm
  rw [u19] at v19
  rw [u27] at v27
  rw [u28] at v28
  rw [u31] at v31
  have w3 : ∀ f, f = 33 ∨ f = 34 ∨ f = 36 ∨ f = 37 ∨ f = 38 ∨ f = 35 → noteM (levM M2 t) (nN M 53 0) (nI t) (nI 7) f = M1 f := fun f hf => by
    rw [q f (by rcases hf with rfl | rfl | rfl | rfl | rfl | rfl <;> rfl) (by omega) (by omega), o2 f (by omega) (by omega) (by omega) (by omega)]
  refine ⟨⟨⟨by rw [nN_e (w3 33 (by decide))]; exact n33, by rw [nN_e (w3 34 (by decide))]; exact n34, by rw [w3 35 (by decide)]; exact n35, by rw [nN_e (w3 36 (by decide))]; exact n36, by rw [nN_e (w3 37 (by decide))]; exact n37, by rw [nN_e (w3 38 (by decide))]; exact n38⟩, ⟨v19, v27, v28, v31⟩, a, vpl, b, q2⟩, ?_⟩
  have c2 : nN M1 2 = nN M 2 := nN_e (nf 2 rfl)
  have c8 : nN M1 8 = nN M 8 := nN_e (nf 8 rfl)
  have c21 : nN M1 21 = nN M 21 := nN_e (nf 21 rfl)
  have c24 : nN M1 24 = nN M 24 := nN_e (nf 24 rfl)
  have c25 : nN M1 25 = nN M 25 := nN_e (nf 25 rfl)
  have c29 : nN M1 29 = nN M 29 := nN_e (nf 29 rfl)
  have c16 : nN M1 16 = nN M 16 := nN_e (nf 16 rfl)
  have c53 : nN M1 53 = nN M 53 := nN_e (nf 53 rfl)
  refine I1.chg (v19 := 4) (v21 := nN M 21 t) (v24 := nN M 24 t) (v25 := nN M 25 t) (v27 := nN M 27 t + 1) h1t ht (by rw [c8]; exact ho) b (fun f hf => ?_) (by rw [c19]; exact v19) (by rw [nN_e (q2 21 rfl), c21, vu_id]) (fun u _ => by rw [nN_e (q2 22 rfl), nN_e (nf 22 rfl)]) (by rw [nN_e (q2 24 rfl), c24, vu_id]) (by rw [nN_e (q2 25 rfl), c25, vu_id]) (by rw [c27]; exact v27) ?_ (by rw [c27]; omega) ?_ ?_ ?_ ?_
  · by_cases h3 : f = 33 ∨ f = 34 ∨ f = 36 ∨ f = 37 ∨ f = 38 ∨ f = 35
    · exact w3 f h3
    · have hpa : paF f = false := by
        cases hq : paF f
        · rfl
        · unfold paF at hq
          split at hq <;> first | (exact absurd hf (by decide)) | (exact absurd (by decide) h3) | cases hq
      rw [q f (no_of hf rfl rfl rfl rfl) (fne hf rfl) (fne hf rfl), o3 f hpa, nf f hpa]
  · rw [c2, c29]
    exact ⟨by decide, by omega, fun q => by omega, by omega, fun _ => ⟨by decide, fun _ => ⟨fun q => by omega, fun _ => by omega, fun q => by omega, fun _ => ⟨h10, by omega⟩, fun q => by omega, fun q => by omega⟩⟩⟩
  · rw [c16, n40]; exact hI.ab
  · rw [c27, v31, n38]
    intro u q3 q4 j q5
    have f4 := hI.f.2.2.2 u q3 q4
    by_cases hu : u = t
    · subst hu
      rw [vu_s] at q5
      by_cases hj : j = nN M 27 u
      · subst hj; rw [vu_s]; omega
      · rw [vu_n (by omega)]; have := f4 j (by omega); omega
    · rw [vu_n hu] at q5
      have := (hI.d u q3 q4).2.1
      have := (hI.s.2 u q3 q4).2.2.2.2.2.2.1
      rw [vu_n (by omega)]; have := f4 j q5; omega
  · rw [a.2.2.2, c2, c19, c21, c24, c27, c53, hw, h10]
    show nN M 53 0 + 1 + 0 + (nN M 21 t + nN M 27 t + 0) ≤ nN M 53 0 + 0 + (nN M 21 t + (nN M 27 t + 1) + 0)
    omega
  · rw [c2, c8, c19, c25, vu_id]
    intro c9 hc9
    obtain ⟨p1, p2, p3⟩ := hI.p c9 hc9
    rw [vpl c9 hc9]
    refine ⟨p1.erase t, fun q => by rw [p2 q]; rfl, fun u hu => ?_⟩
    have hm := p1.mem_erase_iff.mp hu
    rw [vu_n hm.1]; exact p3 u hm.2
end RSTS
