/-! the failures' own marks, kept by everything -/
section FXS
variable {n k F w x y d wn : Nat} {K K1 K' : MS} {L L' : KL} {M M1 M' : MS} {t h c b : Nat}
def FX (wn : Nat) (K : MS) (F : Nat) : Prop := K 4 0 = nI wn ∧ ∀ f, 1 ≤ f → f ≤ F → (∃ tu, K 57 f = nI tu ∧ tu ≤ nN K 53 f + 1) ∧ (∃ u, u ≤ F ∧ K 58 f = nI u) ∧ ∃ u, u ≤ wn ∧ K 54 f = nI u
def Fx (K K' : MS) : Prop := ∀ g j, g = 4 ∨ g = 53 ∨ g = 54 ∨ g = 57 ∨ g = 58 → K' g j = K g j
theorem Fx.rf : Fx K K := fun _ _ _ => rfl
theorem Fx.tr (h1 : Fx K K1) (h2 : Fx K1 K') : Fx K K' := fun g j hg => (h2 g j hg).trans (h1 g j hg)
theorem Fx.up {f j : Nat} {v : Int32} (hf : f ≠ 4 ∧ f ≠ 53 ∧ f ≠ 54 ∧ f ≠ 57 ∧ f ≠ 58) : Fx K (up2 K f j v) := fun g i hg => by rw [up2_f (by omega)]
theorem Fx.ls {a : Nat} (ha : a ≤ 13) (e : ∀ f j, f ≠ 4000 + a → ¬ ((f = 63 ∨ f = 64 ∨ f = 65 ∨ f = 67) ∧ j = a) → K' f j = K f j) : Fx K K' := fun g j hg => e g j (by omega) (by omega)
theorem Fx.jr {v s ev : Int32} : Fx K (jrnK K v s ev) := fun g j hg => jrn_o (by omega) (by omega) (by omega)
theorem Fx.rel (hh : nN K 31 t ≤ 12) : Fx K (relK K t) := fun g j hg => relK_o hh (by omega) (by omega) (by omega) (by unfold isLs; omega)
theorem Fx.nte (hh : isWK K t = true → nN K 31 t ≤ 12) : Fx K (nteK K t) := fun g j hg => by
  rw [nteK_o hh (by omega) (by omega) (by omega) (by unfold isLs; omega)]
  unfold nteC
  rw [srvD_o _ _ _ _ _ _ (by omega)]
  unfold nteB
  rw [jrn_o (by omega) (by omega) (by omega)]
  unfold nteA
  rw [up2_f (by omega), up2_f (by omega), up2_f (by omega)]
theorem FX.ot (h : FX wn K F) (e : Fx K K') : FX wn K' F := ⟨by rw [e 4 0 (by simp)]; exact h.1, fun f h1 h2 => by
  have e53 : nN K' 53 f = nN K 53 f := by unfold nN; rw [e 53 f (by simp)]
  rw [e 57 f (by simp), e 58 f (by simp), e 54 f (by simp), e53]; exact h.2 f h1 h2⟩
theorem FX.nf {kd at' ca : Int32} {ns : Nat} {sup : Nat → Int32} (h : FX wn K F) (hF : F < 5000) : FX wn (newFK K (F + 1) kd at' ca ns sup) (F + 1) := ⟨by rw [nfK_n (by decide) (by omega)]; exact h.1, fun f h1 h2 => by
  by_cases c : f = F + 1
  · subst c
    have e : ∀ g, g = 54 ∨ g = 57 ∨ g = 58 → newFK K (F + 1) kd at' ca ns sup g (F + 1) = 0 := fun g hg => by
      unfold newFK
      rw [if_neg (by omega), if_pos (by omega), if_neg (by omega), if_neg (by omega), if_neg (by omega), if_neg (by omega)]
    exact ⟨⟨0, by rw [e 57 (by simp), nI_0], Nat.zero_le _⟩, ⟨0, Nat.zero_le _, by rw [e 58 (by simp), nI_0]⟩, 0, Nat.zero_le _, by rw [e 54 (by simp), nI_0]⟩
  · have e : ∀ g, g < 10000 → newFK K (F + 1) kd at' ca ns sup g f = K g f := fun g hg => nfK_n hg c
    have e53 : nN (newFK K (F + 1) kd at' ca ns sup) 53 f = nN K 53 f := by unfold nN; rw [e 53 (by decide)]
    obtain ⟨q1, ⟨u, q2, q3⟩, q4⟩ := h.2 f h1 (by omega)
    rw [e 57 (by decide), e 58 (by decide), e 54 (by decide), e53]
    exact ⟨q1, ⟨u, by omega, q3⟩, q4⟩⟩
theorem FX.res (h : FX wn K F) (hF : F < 5000) (r : Rs) : FX wn (resK K t F r) (resF F r) := by
  obtain ⟨q, a⟩ := r
  match q with
  | 0 => exact h
  | 1 => exact h.ot (((Fx.up (by decide)).tr (Fx.up (by decide))).tr (Fx.up (by decide)))
  | 2 => exact h.ot ((Fx.up (by decide)).tr (Fx.up (by decide)))
  | 3 => exact h.ot (Fx.up (by decide))
  | q + 4 => exact (h.nf hF).ot ((Fx.up (by decide)).tr (Fx.up (by decide)))
theorem Fx.rdy : Fx K (rdyK K t) := ((Fx.up (by decide)).tr (Fx.up (by decide))).tr (Fx.ls (a := 0) (by decide) (add_e 0 t))
theorem FX.mt (h : FX wn K F) (hF : F < 5000) : FX wn (mtK K F t) (mtN K F t) := by
  unfold mtK mtN
  by_cases c5 : K 16 (iK K t 0) = nI 5
  · have c6 : ¬ K 16 (iK K t 0) = nI 6 := by rw [c5]; decide
    rw [if_pos c5, if_neg c6]
    exact h.ot (((Fx.up (by decide)).tr (Fx.up (by decide))).tr (Fx.up (by decide)))
  · rw [if_neg c5]
    by_cases c6 : K 16 (iK K t 0) = nI 6
    · rw [if_pos c6, if_pos c6]
      exact (h.nf hF).ot ((Fx.up (by decide)).tr (Fx.up (by decide)))
    · rw [if_neg c6, if_neg c6]
      by_cases c7 : K 16 (iK K t 0) = nI 7
      · rw [if_pos c7]; exact h.ot (Fx.up (by decide))
      · rw [if_neg c7]; exact h.ot ((Fx.up (by decide)).tr Fx.jr)
theorem FX.fn (h : FX wn K F) (hF : F < 5000) (ht : t < 1000) (hh : nN K 31 t ≤ 12) : FX wn (fnK K F t) (fnF K F t) := by
  unfold fnK fnF
  by_cases c : fwKd K t = -1
  · rw [if_pos c, if_pos c]; exact h.ot ((Fx.up (by decide)).tr (Fx.up (by decide)))
  · rw [if_neg c, if_neg c]
    by_cases c2 : fnB K t = true
    · rw [if_pos c2]
      have e31 : nN (fnP1 K F t) 31 t ≤ 12 := by
        unfold fnP1 bpK fnN
        rw [nN_f (by decide), nN_f (by decide), nN_f (by omega), nN_f (by omega), nN_f (by decide), nN_e (nfK_o (by decide) (by omega))]
        exact hh
      have q : FX wn (fnP1 K F t) (F + 1) := by
        unfold fnP1 bpK fnN
        exact (h.nf hF).ot (((((Fx.up (by decide)).tr (Fx.up (by omega))).tr (Fx.up (by omega))).tr (Fx.up (by decide))).tr (Fx.up (by decide)))
      exact (q.ot (Fx.rel e31)).ot Fx.jr
    · rw [if_neg c2]
      exact (h.nf hF).ot ((Fx.up (by decide)).tr (Fx.up (by decide)))
theorem FX.tw (h : FX wn K F) (hF : F < 5000) (ht : t < 1000) (hh : nN K 31 t ≤ 12) : FX wn (twK K F t) (twN K F t) := by
  unfold twK twN
  split
  · exact h.fn hF ht hh
  · exact h.mt hF
theorem Fx.tk {u : Nat} (hc : c ≤ 13) : Fx K (tkK K c u) := by
  unfold tkK tkK3 bwK tkK2 tkK1
  exact (((((((((Fx.ls (a := 0) (by decide) (drp_e 0 u)).tr (Fx.ls hc (add_e c u))).tr (Fx.up (by decide))).tr (Fx.up (by decide))).tr (Fx.up (by decide))).tr (Fx.up (by decide))).tr (Fx.up (by decide))).tr (Fx.up (by decide))).tr (Fx.up (by decide))).tr Fx.jr
theorem FX.rt (h : FX wn K F) (hF : F < 5000) (hc : c ≤ 13) : FX wn (rtK K F L c) (rtF K F c) := by
  unfold rtK rtF
  by_cases c0 : upmK K c = 0
  · rw [if_pos c0, if_pos c0]
    split
    · exact h
    · exact h.ot (Fx.tk hc)
  · rw [if_neg c0, if_neg c0]
    by_cases c3 : K 16 (upmK K c) = nI 3
    · rw [if_pos c3, if_pos c3]
      by_cases c5 : nI 5 ≤ K 16 (iK K (upmK K c) 0)
      · rw [if_pos c5, if_pos c5]
        have q : FX wn (rtR K (upmK K c)) F := h.ot Fx.jr
        exact q.mt hF
      · rw [if_neg c5, if_neg c5]
        split
        · exact h
        · exact h.ot ((Fx.up (by decide)).tr (Fx.tk hc))
    · rw [if_neg c3, if_neg c3]; exact h
theorem Rel.fw (hR : Rel n k F K L M) (hI : Inv n k w x y M) (hx : x ≤ 1) (hy : y ≤ 1) (h : FX wn K F) : FW K F := fun f h1 h2 => by
  have bd := hI.bd hx hy
  have hF := hR.f.1
  have g := hR.f.2 (f - 1) (by omega)
  have q := hI.f.1 (f - 1) (by omega)
  rw [show f - 1 + 1 = f by omega] at g
  obtain ⟨g1, g2, -⟩ := h.2 f h1 h2
  refine ⟨g1, by omega, ?_, g2, fun j hj => ⟨nN K (10000 + f) j, ?_, hR.nt (10000 + f) j (by unfold exK; exact decide_eq_false (by omega))⟩⟩
  · rcases q.2.1 with e | ⟨v, v1, v2⟩
    · exact ⟨0, Nat.zero_le _, by rw [g.2.2.1, e]; decide +kernel⟩
    · exact ⟨v + 1, by omega, by rw [g.2.2.1, v2, nI_add]⟩
  · rw [g.2.2.2.1] at hj
    rw [g.2.2.2.2 j hj]
    have := q.2.2.2.2 j hj
    omega
end FXS
