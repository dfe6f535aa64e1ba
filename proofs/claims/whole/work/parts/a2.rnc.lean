/-! a working that is over, on both sides -/
section RNCS
variable {n k F w x y : Nat} {K K1 K' : MS} {L L' : KL} {M M1 M' : MS} {t h : Nat}
theorem pln_prow {fw ft : Nat → Int32} {a b u v : Int32} (q0 : Nat) (hm : ∀ i, i < q0 → ((fw i = a ∧ ft i = b) ↔ (M 41 i = u ∧ M 42 i = v))) (hu : ∀ i j, i < j → j < q0 → ¬ ((M 41 i = u ∧ M 42 i = v) ∧ (M 41 j = u ∧ M 42 j = v))) : ∀ (q i : Nat) (z : Int32), i + q = q0 → i ≤ prow fw ft a b q i ∧ prow fw ft a b q i ≤ i + q ∧ plnF M u v q i z = if prow fw ft a b q i < i + q then nI (prow fw ft a b q i) else z
  | 0, i, z, _ => ⟨Nat.le_refl _, Nat.le_refl _, by rw [plnF, prow, if_neg (by omega)]⟩
  | q + 1, i, z, hq => by
    have hi := hm i (by omega)
    obtain ⟨r1, r2, r3⟩ := pln_prow q0 hm hu q (i + 1) (if M 41 i = u ∧ M 42 i = v then nI i else z) (by omega)
    rw [plnF, prow, r3]
    by_cases c : M 41 i = u ∧ M 42 i = v
    · rw [if_pos c, if_pos (hi.mpr c)]
      refine ⟨Nat.le_refl _, by omega, ?_⟩
      rw [if_pos (show i < i + (q + 1) by omega)]
      by_cases hp : prow fw ft a b q (i + 1) < i + 1 + q
      · exfalso
        -- a second match
        have sec : ∀ (q i : Nat), prow fw ft a b q i < i + q → i + q ≤ q0 → (fw (prow fw ft a b q i) = a ∧ ft (prow fw ft a b q i) = b) := by
          intro q
          induction q with
          | zero => intro i h1 _; rw [prow] at h1; omega
          | succ q ih =>
            intro i h1 h2
            rw [prow] at h1 ⊢
            by_cases c2 : fw i = a ∧ ft i = b
            · rw [if_pos c2]; exact c2
            · rw [if_neg c2] at h1 ⊢; exact ih (i + 1) (by omega) (by omega)
        have m2 := (hm _ (by omega)).mp (sec q (i + 1) hp (by omega))
        exact hu i _ (by omega) (by omega) ⟨c, m2⟩
      · rw [if_neg hp]
    · rw [if_neg c, if_neg (fun y => c (hi.mp y))]
      refine ⟨by omega, by omega, ?_⟩
      rw [show i + 1 + q = i + (q + 1) by omega]
theorem pln_K (hR : Rel n k F K L M) (hI : Inv n k w x y M) (h1t : 1 ≤ t) (ht : t ≤ n) (h9 : 9 ≤ nN M 2 t) : (plnM M (nI t) (M 21 t) = -1 ∧ fwK0 K t = -1) ∨ (∃ r, r < nN M 44 0 ∧ plnM M (nI t) (M 21 t) = nI r ∧ fwK0 K t = nI (nN M 43 r) ∧ nN M 43 r ≤ 15) := by
  have k10 : K 10 t = nI t := by rw [hR.nt 10 t rfl, (hR.s t h1t ht).1]
  have k27 : K 27 t = M 21 t := by rw [hR.nt 27 t rfl, hI.nt 21 t rfl, (hR.w t h1t ht h9).1.2.1]
  have hl := hR.l
  have hh := hI.hh
  have hb : nN M 44 0 ≤ 64 := hh.1
  have r := pln_prow (M := M) (fw := K 71) (ft := K 72) (a := K 10 t) (b := K 27 t) (u := nI t) (v := M 21 t) (nN M 44 0) (fun i hi => by
    have q := hl.2 i hi
    rw [k10, k27, hR.nt 71 i rfl, hR.nt 72 i rfl, q.1, q.2.1, ← hI.nt 41 i rfl, ← hI.nt 42 i rfl]) (fun i j hij hj ⟨⟨c1, c2⟩, c3, c4⟩ => hh.2.2 i j hij hj ⟨(hI.nt.e2 rfl rfl).mp (c1.trans c3.symm), (hI.nt.e2 rfl rfl).mp (c2.trans c4.symm)⟩) (nN M 44 0) 0 (-1) (by omega)
  unfold plnM fwK0 kndK prwK
  rw [hl.1, r.2.2]
  by_cases c : prow (K 71) (K 72) (K 10 t) (K 27 t) (nN M 44 0) 0 < nN M 44 0
  · rw [if_pos (by omega), if_pos c]
    refine Or.inr ⟨_, c, rfl, ?_, hh.2.1 _ c⟩
    rw [hR.nt 73 _ rfl, (hl.2 _ c).2.2]
  · rw [if_neg (by omega), if_neg c]; exact Or.inl ⟨rfl, rfl⟩
theorem nI_ne_m1 {a : Nat} (h : a < 2 ^ 31) : ¬ nI a = -1 := fun q => by
  have := congrArg Int32.toInt q
  rw [nI_toInt h] at this
  have z : (-1 : Int32).toInt = -1 := by decide
  rw [z] at this; omega
theorem kd_sim (hR : Rel n k F K L M) (hI : Inv n k w x y M) (h1t : 1 ≤ t) (ht : t ≤ n) (h9 : 9 ≤ nN M 2 t) : (wrkB M t = false ∧ fwKd K t = -1 ∧ nN M 5 t ≤ 3) ∨ (wrkB M t = true ∧ fwKd K t = nI (wrkK M t) ∧ wrkK M t ≤ 15) := by
  have rs := hR.s t h1t ht
  have k13 : K 13 t = nI 4 ↔ nN M 5 t = 4 := by rw [hR.nt.eq rfl (by decide), rs.2.2.2.2.1]
  have k14 : K 14 t = M 6 t := by rw [rs.2.2.2.2.2.1, if_neg (by omega), if_neg (by omega)]
  have h5 := (hI.s.2 t h1t ht).2.2.2.1.2 (Or.inr h9)
  unfold wrkB fwKd wrkK
  rcases pln_K hR hI h1t ht h9 with ⟨p1, p2⟩ | ⟨r, r1, p1, p2, p3⟩
  · rw [p1, p2, k14]
    by_cases c : nN M 5 t = 4
    · refine Or.inr ⟨decide_eq_true (Or.inr ((hI.nt.eq rfl (by decide)).mpr c)), ?_, ?_⟩
      · rw [if_pos ⟨rfl, k13.mpr c⟩, if_pos rfl]; exact (and15 (M 6 t)).1
      · rw [if_pos rfl]; exact (and15 (M 6 t)).2
    · refine Or.inl ⟨decide_eq_false ?_, ?_, by omega⟩
      · rintro (z | z)
        · exact z rfl
        · exact c ((hI.nt.eq rfl (by decide)).mp z)
      · rw [if_neg (show ¬ ((-1 : Int32) = -1 ∧ K 13 t = nI 4) from fun z => c (k13.mp z.2))]
  · have hb : nN M 44 0 ≤ 64 := hI.hh.1
    rw [p1, p2]
    refine Or.inr ⟨decide_eq_true (Or.inl (nI_ne_m1 (show r < 2 ^ 31 by omega))), ?_, ?_⟩
    · rw [if_neg (show ¬ (nI (nN M 43 r) = -1 ∧ K 13 t = nI 4) from fun z => nI_ne_m1 (by omega) z.1), if_neg (nI_ne_m1 (show r < 2 ^ 31 by omega)), nI_clamp (by omega)]
    · rw [if_neg (nI_ne_m1 (show r < 2 ^ 31 by omega)), nI_clamp (by omega)]; exact p3
theorem res_wrk (hR : Rel n k F K L M) (hI : Inv n k w x y M) (h1t : 1 ≤ t) (ht : t ≤ n) (h9 : 9 ≤ nN M 2 t) (h5 : nN M 5 t ≤ 3) : resV K t = wrkV M t := by
  have rs := hR.s t h1t ht
  have k13 : ∀ c, c < 2 ^ 31 → (K 13 t = nI c ↔ nN M 5 t = c) := fun c hc => by rw [hR.nt.eq rfl hc, rs.2.2.2.2.1]
  have m5 : ∀ c, c < 2 ^ 31 → (M 5 t = nI c ↔ nN M 5 t = c) := fun c hc => hI.nt.eq rfl hc
  have k14 : K 14 t = M 6 t := by rw [rs.2.2.2.2.2.1, if_neg (by omega), if_neg (by omega)]
  have k27 : K 27 t = M 21 t := by rw [hR.nt 27 t rfl, hI.nt 21 t rfl, (hR.w t h1t ht h9).1.2.1]
  have k26 : K 26 t = M 22 t := by rw [hR.nt 26 t rfl, hI.nt 22 t rfl, (hR.w t h1t ht h9).1.1]
  have e11 := hR.e11 hI h1t ht
  have ri : rsI K t = if nN M 2 t = 11 then M 11 (iN M t 0) else nI 0 := by
    unfold rsI
    by_cases c : nN M 2 t = 11
    · have h4 : nN M 4 t = 1 := (hI.s.2 t h1t ht).1.2.2.2.1 (Or.inr (Or.inr (Or.inl c)))
      have hm : iN M t 0 ∈ inL M t := inL_mem.mpr ⟨0, by omega, rfl⟩
      have b := inL_b hI.s h1t ht hm
      rw [if_pos c, if_pos (e11.mpr c), iK_iN hR h1t ht (by omega), (hR.d _ b.1 (by omega)).2.1]
    · rw [if_neg c, if_neg (fun z => c (e11.mp z))]
  have m0 : M 5 t = 0 ↔ nN M 5 t = 0 := hI.nt.z rfl
  have m2 : M 2 t = nI 11 ↔ nN M 2 t = 11 := hI.nt.eq rfl (by decide)
  have z0 : ∀ a : Int32, a + nI 0 = a := fun a => by rw [nI_0, Int32.add_zero]
  unfold resV wrkV wrkA
  rw [ri, k14, k27, k26]
  by_cases c : nN M 2 t = 11
  · rw [if_pos c, if_pos (m2.mpr c)]
    have : nN M 5 t = 0 ∨ nN M 5 t = 1 ∨ nN M 5 t = 2 ∨ nN M 5 t = 3 := by omega
    rcases this with q | q | q | q
    · rw [if_neg (fun z => by rw [k13 1 (by decide)] at z; omega), if_neg (fun z => by rw [k13 2 (by decide)] at z; omega), if_neg (fun z => by rw [k13 3 (by decide)] at z; omega), if_pos (m0.mpr q)]
    · rw [if_pos ((k13 1 (by decide)).mpr q), if_neg (fun z => by rw [m0] at z; omega), if_pos ((m5 1 (by decide)).mpr q)]
    · rw [if_neg (fun z => by rw [k13 1 (by decide)] at z; omega), if_pos ((k13 2 (by decide)).mpr q), if_neg (fun z => by rw [m0] at z; omega), if_neg (fun z => by rw [m5 1 (by decide)] at z; omega), if_pos ((m5 2 (by decide)).mpr q)]
    · rw [if_neg (fun z => by rw [k13 1 (by decide)] at z; omega), if_neg (fun z => by rw [k13 2 (by decide)] at z; omega), if_pos ((k13 3 (by decide)).mpr q), if_neg (fun z => by rw [m0] at z; omega), if_neg (fun z => by rw [m5 1 (by decide)] at z; omega), if_neg (fun z => by rw [m5 2 (by decide)] at z; omega)]
  · rw [if_neg c, if_neg (fun z => c (m2.mp z)), z0, z0, z0, z0]
    have : nN M 5 t = 0 ∨ nN M 5 t = 1 ∨ nN M 5 t = 2 ∨ nN M 5 t = 3 := by omega
    rcases this with q | q | q | q
    · rw [if_neg (fun z => by rw [k13 1 (by decide)] at z; omega), if_neg (fun z => by rw [k13 2 (by decide)] at z; omega), if_neg (fun z => by rw [k13 3 (by decide)] at z; omega), if_pos (m0.mpr q)]
    · rw [if_pos ((k13 1 (by decide)).mpr q), if_neg (fun z => by rw [m0] at z; omega), if_pos ((m5 1 (by decide)).mpr q)]
    · rw [if_neg (fun z => by rw [k13 1 (by decide)] at z; omega), if_pos ((k13 2 (by decide)).mpr q), if_neg (fun z => by rw [m0] at z; omega), if_neg (fun z => by rw [m5 1 (by decide)] at z; omega), if_pos ((m5 2 (by decide)).mpr q)]
    · rw [if_neg (fun z => by rw [k13 1 (by decide)] at z; omega), if_neg (fun z => by rw [k13 2 (by decide)] at z; omega), if_pos ((k13 3 (by decide)).mpr q), if_neg (fun z => by rw [m0] at z; omega), if_neg (fun z => by rw [m5 1 (by decide)] at z; omega), if_neg (fun z => by rw [m5 2 (by decide)] at z; omega)]
/-- what a work's change leaves as it was -/
def FrA (M M' : MS) (t : Nat) : Prop := (∀ f, mS f = true → M' f = M f) ∧ (∀ f, f = 0 ∨ f = 1 ∨ f = 8 ∨ f = 12 ∨ f = 13 ∨ f = 14 ∨ f = 15 ∨ f = 16 ∨ f = 17 ∨ f = 26 ∨ f = 55 → M' f = M f) ∧ (∀ u, u ≠ t → nN M' 19 u = nN M 19 u ∧ nN M' 23 u = nN M 23 u) ∧ nN M' 19 t ≠ 0 ∧ (∀ g, g < nN M 38 0 → nN M' 33 g = nN M 33 g) ∧ nN M 38 0 ≤ nN M' 38 0
theorem FrA.of {p : Nat → Bool} (mf : ∀ f, p f = false → M' f = M f) (hp : ∀ f, p f = true → f = 19 ∨ f = 23 ∨ f = 24 ∨ f = 25 ∨ f = 21 ∨ f = 22 ∨ f = 27 ∨ f = 28 ∨ f = 31 ∨ (33 ≤ f ∧ f ≤ 38) ∨ f = 46 ∨ f = 47 ∨ (50 ≤ f ∧ f ≤ 53)) (h19 : ∀ u, u ≠ t → nN M' 19 u = nN M 19 u ∧ nN M' 23 u = nN M 23 u) (hz : nN M' 19 t ≠ 0) (h33 : ∀ g, g < nN M 38 0 → nN M' 33 g = nN M 33 g) (h38 : nN M 38 0 ≤ nN M' 38 0) : FrA M M' t := by
  have q : ∀ f, ¬ (f = 19 ∨ f = 23 ∨ f = 24 ∨ f = 25 ∨ f = 21 ∨ f = 22 ∨ f = 27 ∨ f = 28 ∨ f = 31 ∨ (33 ≤ f ∧ f ≤ 38) ∨ f = 46 ∨ f = 47 ∨ (50 ≤ f ∧ f ≤ 53)) → M' f = M f := fun f hf => mf f (by
    cases hz : p f
    · rfl
    · exact absurd (hp f hz) hf)
  exact ⟨fun f hf => q f (by have := of_decide_eq_true hf; omega), fun f hf => q f (by omega), h19, hz, h33, h38⟩
theorem WtE.fr (E : WtE M M' t) : FrA M M' t := FrA.of E.2.2.2 (fun f hf => by unfold wtF9 at hf; split at hf <;> first | omega | cases hf) (fun u hu => ⟨by rw [E.1, vu_n hu], by rw [nN_e (E.2.2.2 23 rfl)]⟩) (by rw [E.1, vu_s]; decide) (fun g _ => by rw [nN_e (E.2.2.2 33 rfl)]) (by rw [nN_e (E.2.2.2 38 rfl)]; exact Nat.le_refl _)
theorem SeE.fr (E : SeE M M' t) : FrA M M' t := FrA.of E.2.2.2.2 (fun f hf => by unfold seF at hf; split at hf <;> first | omega | cases hf) (fun u hu => ⟨by rw [E.1, vu_n hu], by rw [E.2.2.1, vu_n hu]⟩) (by rw [E.1, vu_s]; decide) (fun g _ => by rw [nN_e (E.2.2.2.2 33 rfl)]) (by rw [nN_e (E.2.2.2.2 38 rfl)]; exact Nat.le_refl _)
theorem PzE.fr {kd : Nat} (E : PzE M M' t kd) : FrA M M' t := by
  obtain ⟨⟨m33, m34, m35, m36, m37, m38⟩, ⟨m19, m27, m28, m31⟩, lg, mpl, mN, mf⟩ := E
  exact FrA.of mf (fun f hf => by unfold pzF at hf; split at hf <;> first | omega | cases hf) (fun u hu => ⟨by rw [m19, vu_n hu], by rw [nN_e (mf 23 rfl)]⟩) (by rw [m19, vu_s]; decide) (fun g hg => by rw [m33, vu_n (by omega)]) (by rw [m38]; omega)
theorem TkE.fr {c : Nat} (E : TkE M M' c t) : FrA M M' t := by
  obtain ⟨⟨m19, m21, m22, m23, m24, m25⟩, lg, mpl, mN, mf⟩ := E
  exact FrA.of mf (fun f hf => by unfold tkF at hf; split at hf <;> first | omega | cases hf) (fun u hu => ⟨by rw [m19, vu_n hu], by rw [m23, vu_n hu]⟩) (by rw [m19, vu_s]; decide) (fun g _ => by rw [nN_e (mf 33 rfl)]) (by rw [nN_e (mf 38 rfl)]; exact Nat.le_refl _)
/-- a work's change keeps a state at rest -/
theorem Rst.wk {F' : Nat} (hS : Rst n k w F K L M) (fr : FrA M M' t) (hR' : Rel n k F' K' L' M') (hI' : Inv n k w 0 0 M') (l13 : lsL K' 13 = lsL K 13) : Rst n k w F' K' L' M' := by
  obtain ⟨hR, hI, hN, h13, h17, hQ⟩ := hS
  obtain ⟨f1, f2, f3, f4, f5, f6⟩ := fr
  refine ⟨hR', hI', fun u a b c => ?_, by rw [l13, h13], by rw [nN_e (f2 17 (by decide)), nN_e (f2 16 (by decide))]; exact h17, fun u u1 u2 => ?_⟩
  · rw [nN_e (f2 8 (by decide))] at c
    rw [nN_e (f2 13 (by decide)), nN_e (f2 26 (by decide))]; exact hN u a b c
  · refine (hQ u u1 u2).keep hR hI hR' hI' u1 u2 f1 (fun z => by rw [nN_e (f2 8 (by decide))] at z; exact z) (fun _ z => ?_) (fun s _ => by rw [nN_e (f2 8 (by decide))]) (fun s _ _ => by rw [nN_e (f2 12 (by decide))]) f5 f6
    by_cases hu : u = t
    · subst hu; exact absurd z f4
    · rw [(f3 u hu).1] at z; exact z
end RNCS
