/-! always; what changes no stage -/
section ALWS
variable {n k F w x y d wn : Nat} {K K1 K2 K' : MS} {L L1 L' : KL} {M M1 M' : MS} {t h c b : Nat}
abbrev aK1 (n : Nat) (K : MS) (v w x y : Int32) : MS := owK (mkKw K (n + 1) (begW n (nI 4) w x y) [v.toNatClampNeg] 0) (n + 1)
abbrev aL1 (n : Nat) (L : KL) (v : Int32) : KL := upLt L (n + 1) (hgN L (n + 1) [v.toNatClampNeg])
abbrev aK2 (n : Nat) (K : MS) (v w x y : Int32) : MS := mkK (aK1 n K v w x y) (n + 1 + 1) (beg (n + 1) (nI 11) (nI 0) (nI 0)) (in2 v.toNatClampNeg (n + 1))
abbrev aL2 (n : Nat) (L : KL) (v : Int32) : KL := upLt (aL1 n L v) (n + 1 + 1) (hgN (aL1 n L v) (n + 1 + 1) (in2 v.toNatClampNeg (n + 1)))
theorem alw_step (hS : Rst n k w F K L M) (hX : FX wn K F) (v z u a : Int32) :
    (alwP K v z u → n < 199 → OpS (n + 1) k w wn (aK2 n K v z u a) F (aL2 n L v) (mawM n M v z u a) ∧ mawC n M v z u a = nI (n + 2)) ∧ (¬ alwP K v z u → mawC n M v z u a = -1 ∧ mawM n M v z u a = M) ∧ (alwP K v z u → 199 ≤ n → mawC n M v z u a = -2 ∧ mawM n M v z u a = M) ∧
    (n + 2 ≤ 200 → M 4 (n + 2) = nI 0) ∧ (mawB M v z u a = true → fulB n 2 = false → BgX (n + 2) k w (mawA n M v z u a)) := by
  obtain ⟨e0, e1, a1, e4, md, e2, em, hw⟩ := hS.n0
  have hI := hS.2.1
  have hPB : alwP K v z u ↔ mawB M v z u a = true := by
    unfold alwP iwB mawB; rw [decide_eq_true_iff, decide_eq_true_iff, e0, e1]
  have key : alwP K v z u → n < 199 → OpS (n + 1) k w wn (aK2 n K v z u a) F (aL2 n L v) (bgnM (n + 2) (mawA n M v z u a) (n + 2)) ∧ BgX (n + 2) k w (mawA n M v z u a) := fun hP hn => by
    have hP' := of_decide_eq_true hP.2
    have hP1 := hP.1
    rw [e0] at hP1
    obtain ⟨mi, rfl, m1, m2⟩ := nI_btw (by decide) (by decide) hP'.1
    obtain ⟨kd, rfl, -, k2⟩ := nI_btw (by decide) (by decide) hP'.2
    obtain ⟨p, rfl, p1, p2⟩ := nI_btw (by decide) (by omega) hP1
    obtain ⟨S1, X1⟩ := maw_1 (v := p) (mi := mi) (kd := kd) hS hX (by omega) p1 p2 m1 m2 k2 a
    have I1 := S1.2.1
    obtain ⟨f1, f2, f3, f4⟩ := I1.fr (show n + 1 + 1 ≤ 200 by omega)
    have E := (mk2 (n := n + 1) (u := p) (v := n + 1) (so := 7) (kd := 0) I1 (by omega) (nI 0) (by decide) (by decide) (by omega) (by omega)).u7 (v := n + 1) (by omega)
    obtain ⟨l1, l2, l3, l4⟩ := in2_ok (n := n + 1) (u := p) (v := n + 1) ⟨p1, by omega⟩ ⟨by omega, Nat.le_refl _⟩
    have l5 : (in2 p (n + 1)).length = 2 := by unfold in2; rw [if_neg (by omega)]; rfl
    have I2 := E.inv I1 (by omega) (by decide) (by omega) (by unfold shp; omega) l1 l2 ⟨by omega, fun _ => by omega⟩ ⟨by omega, fun q => by omega, fun _ => l4.symm⟩ (fun q => by omega) ⟨by omega, fun _ => f3⟩ (by omega) (fun q => by omega)
    unfold aK2 aL2 aK1 aL1
    rw [nI_clamp (show p < 2 ^ 31 by omega)]
    exact mk_open (n := n + 1) (L1 := upLt L (n + 1) (hgN L (n + 1) [p])) (form := 11) (am' := nI 0) S1 X1 (by omega) E I2 (by decide) l1 l2 (by omega) rfl (by omega) (by rw [if_neg (by decide), if_neg (by decide)]) (fun _ h => h) (fun _ _ => rfl) (fun q => by omega)
  refine ⟨fun hP hn => ?_, fun hP => ?_, fun hP hn => ?_, fun hn => ?_, fun hB hf => ?_⟩
  · have hf : fulB n 2 = false := decide_eq_false (by omega)
    unfold mawC mawM
    rw [if_pos (hPB.mp hP), if_neg (by rw [hf]; decide), if_pos (hPB.mp hP), if_neg (by rw [hf]; decide)]
    exact ⟨(key hP hn).1, rfl⟩
  · unfold mawC mawM
    rw [if_neg (fun z => hP (hPB.mpr z)), if_neg (fun z => hP (hPB.mpr z))]
    exact ⟨rfl, rfl⟩
  · have hf : fulB n 2 = true := decide_eq_true (by omega)
    unfold mawC mawM
    rw [if_pos (hPB.mp hP), if_pos hf, if_pos (hPB.mp hP), if_pos hf]
    exact ⟨rfl, rfl⟩
  · rw [hI.nt 4 _ rfl, (hI.zz (n + 2) (Or.inr (by omega)) hn).1.1]
  · have hn : n < 199 := by have := of_decide_eq_false hf; omega
    exact (key (hPB.mpr hB) hn).2
/-! cooks -/
theorem ckF_at : ∀ (q c : Nat) (M : MS) (f j : Nat), ckF q c M f j = if (f = 48 ∨ f = 49) ∧ c ≤ j ∧ j < c + q then nI 0 else M f j
  | 0, c, M, f, j => by rw [if_neg (by omega)]; rfl
  | q + 1, c, M, f, j => by
    rw [ckF, ckF_at q (c + 1)]
    by_cases h : (f = 48 ∨ f = 49) ∧ c ≤ j ∧ j < c + (q + 1)
    · rw [if_pos h]
      by_cases hj : j = c
      · subst hj
        rw [if_neg (by omega)]
        rcases h.1 with rfl | rfl
        · rw [up2_f (by decide), up2_s]
        · rw [up2_s]
      · rw [if_pos (by omega)]
    · rw [if_neg h, if_neg (by omega), up2_n (by omega), up2_n (by omega)]
theorem czK_at : ∀ (q c : Nat) (K : MS) (f j : Nat), czK q c K f j = if (f = 61 ∨ f = 62) ∧ c ≤ j ∧ j < c + q then nI 0 else K f j
  | 0, c, M, f, j => by rw [if_neg (by omega)]; rfl
  | q + 1, c, M, f, j => by
    rw [czK, czK_at q (c + 1)]
    by_cases h : (f = 61 ∨ f = 62) ∧ c ≤ j ∧ j < c + (q + 1)
    · rw [if_pos h]
      by_cases hj : j = c
      · subst hj
        rw [if_neg (by omega)]
        rcases h.1 with rfl | rfl
        · rw [up2_f (by decide), up2_s]
        · rw [up2_s]
      · rw [if_pos (by omega)]
    · rw [if_neg h, if_neg (by omega), up2_n (by omega), up2_n (by omega)]
theorem anyI_if2 (f : Nat → Bool) : ∀ (q j : Nat) (a : Bool), anyI f q j a = true ↔ a = true ∨ ∃ i, j ≤ i ∧ i < j + q ∧ f i = true
  | 0, j, a => by rw [anyI]; exact ⟨Or.inl, fun z => z.elim id (fun ⟨i, h1, h2, _⟩ => by omega)⟩
  | q + 1, j, a => by
    rw [anyI, anyI_if2 f q (j + 1), Bool.or_eq_true]
    constructor
    · rintro ((z | z) | ⟨i, h1, h2, h3⟩)
      · exact Or.inl z
      · exact Or.inr ⟨j, by omega, by omega, z⟩
      · exact Or.inr ⟨i, by omega, by omega, h3⟩
    · rintro (z | ⟨i, h1, h2, h3⟩)
      · exact Or.inl (Or.inl z)
      · by_cases c : i = j
        · subst c; exact Or.inl (Or.inr h3)
        · exact Or.inr ⟨i, by omega, by omega, h3⟩
theorem cb_iff (hR : Rel n k F K L M) (hI : Inv n k w x y M) : cbK K k = ckB k M := by
  have a3 := hI.a.2.2.1
  have e : cbK K k = true ↔ ckB k M = true := by
    unfold cbK ckB
    rw [anyI_if2, List.any_eq_true]
    constructor
    · rintro ⟨c, c1, c2⟩
      have := List.mem_range.mp c1
      refine Or.inr ⟨c + 1, by omega, by omega, ?_⟩
      have c3 := of_decide_eq_true c2
      rw [(hR.p.1 (c + 1) (by omega) (by omega)).1, pl_len] at c3
      refine decide_eq_true (fun z => ?_)
      rw [← nI_0, hI.nt.ge rfl (by decide)] at z
      omega
    · rintro (z | ⟨c, c1, c2, c3⟩)
      · cases z
      · refine ⟨c - 1, List.mem_range.mpr (by omega), decide_eq_true ?_⟩
        rw [show c - 1 + 1 = c by omega, (hR.p.1 c c1 (by omega)).1, pl_len]
        have c4 := of_decide_eq_true c3
        rw [← nI_0, hI.nt.ge rfl (by decide)] at c4
        omega
  cases h1 : cbK K k
  · cases h2 : ckB k M
    · rfl
    · rw [e.mpr h2] at h1; cases h1
  · rw [e.mp h1]
theorem ck_step (hS : Rst n k w F K L M) (hX : FX wn K F) (v : Int32) : cksC K k v = ckC k M v ∧ ∃ k', Rst n k' w F (cksK K k v) L (ckM k M v) ∧ FX wn (cksK K k v) F := by
  have hR := hS.1
  have hI := hS.2.1
  have eb := cb_iff hR hI
  unfold cksC ckC cksK ckM
  rw [eb]
  by_cases h : nI 1 ≤ v ∧ v ≤ nI 12
  · rw [if_pos h, if_pos h, if_pos h]
    by_cases hb : ckB k M = true
    · rw [if_pos hb, if_pos hb, if_pos hb]; exact ⟨rfl, k, hS, hX⟩
    · rw [if_neg hb, if_neg hb, if_neg hb]
      refine ⟨rfl, ?_⟩
      obtain ⟨k', rfl, k1, k2⟩ := nI_btw (by decide) (by decide) h
      rw [nI_clamp (by omega)]
      obtain ⟨a1, a2, a3, a4, a5, a6, a7⟩ := hI.a
      have oM : ∀ f, f ≠ 45 → f ≠ 48 → f ≠ 49 → up2 (ckF 12 1 M) 45 0 (nI k') f = M f := fun f h1 h2 h3 => by
        rw [up2_f h1]; funext j; rw [ckF_at, if_neg (by omega)]
      have oK : ∀ f, f ≠ 1 → f ≠ 61 → f ≠ 62 → up2 (czK k' 1 K) 1 0 (nI k') f = K f := fun f h1 h2 h3 => by
        rw [up2_f h1]; funext j; rw [czK_at, if_neg (by omega)]
      have NM : NT exM (up2 (ckF 12 1 M) 45 0 (nI k')) := NT.upn (fun f i hf => by
        have : ckF 12 1 M f i = M f i := by
          rw [ckF_at, if_neg]; rintro ⟨q | q, -⟩
          · subst q; cases hf
          · subst q; cases hf
        unfold nN; rw [this]; exact hI.nt f i hf) (by omega)
      have NK : NT exK (up2 (czK k' 1 K) 1 0 (nI k')) := NT.upn (fun f i hf => by
        have : czK k' 1 K f i = K f i := by
          rw [czK_at, if_neg]; rintro ⟨q | q, -⟩
          · subst q; cases hf
          · subst q; cases hf
        unfold nN; rw [this]; exact hR.nt f i hf) (by omega)
      have e0 : ∀ c, c ≤ 12 → plM M c = [] := fun c hc => by
        by_cases c0 : c = 0 ∨ k < c
        · exact (hI.p c hc).2.1 c0
        · refine List.eq_nil_of_length_eq_zero ?_
          rw [pl_len]
          refine Classical.byContradiction (fun z => hb ?_)
          unfold ckB
          rw [anyI_if2]
          refine Or.inr ⟨c, by omega, by omega, decide_eq_true (fun q => ?_)⟩
          rw [← nI_0, hI.nt.ge rfl (by decide)] at q
          omega
      have epl : ∀ c, plM (up2 (ckF 12 1 M) 45 0 (nI k')) c = plM M c := fun c => pl_e (oM 46 (by decide) (by decide) (by decide)) (oM 47 (by decide) (by decide) (by decide))
      have e : ∀ f, f ≠ 45 → f ≠ 48 → f ≠ 49 → nN (up2 (ckF 12 1 M) 45 0 (nI k')) f = nN M f := fun f h1 h2 h3 => nN_e (oM f h1 h2 h3)
      have I2 : Inv n k' w 0 0 (up2 (ckF 12 1 M) 45 0 (nI k')) := by
        obtain ⟨h0, -, h2, h3, h4, h5, h6, h7, h8, h9⟩ := hI
        refine ⟨NM, ⟨a1, k1, k2, a4, by rw [e 1 (by decide) (by decide) (by decide)]; exact a5, by rw [nN_sn (by omega), vu_s], by rw [e 0 (by decide) (by decide) (by decide)]; exact a7⟩, ?_, ?_, ?_, ?_, ?_, ?_, ?_, ?_⟩
        · show iS n _ _ _ _ _ _ _ _
          rw [e 2 (by decide) (by decide) (by decide), e 3 (by decide) (by decide) (by decide), e 4 (by decide) (by decide) (by decide), e 5 (by decide) (by decide) (by decide), e 7 (by decide) (by decide) (by decide), e 18 (by decide) (by decide) (by decide), e 29 (by decide) (by decide) (by decide), e 30 (by decide) (by decide) (by decide)]; exact h2
        · show iZ n _ _ _ _ _ _ _ _ _ _ _ _ _ _ _
          rw [e 4 (by decide) (by decide) (by decide), e 7 (by decide) (by decide) (by decide), e 8 (by decide) (by decide) (by decide), e 9 (by decide) (by decide) (by decide), e 10 (by decide) (by decide) (by decide), e 13 (by decide) (by decide) (by decide), e 21 (by decide) (by decide) (by decide), e 22 (by decide) (by decide) (by decide), e 25 (by decide) (by decide) (by decide), e 26 (by decide) (by decide) (by decide), e 27 (by decide) (by decide) (by decide), e 29 (by decide) (by decide) (by decide), e 30 (by decide) (by decide) (by decide), oM 14 (by decide) (by decide) (by decide), oM 11 (by decide) (by decide) (by decide)]; exact h3
        · show iD n 12 _ _ _ _ _ _ _ _
          rw [e 2 (by decide) (by decide) (by decide), e 8 (by decide) (by decide) (by decide), e 19 (by decide) (by decide) (by decide), e 21 (by decide) (by decide) (by decide), e 24 (by decide) (by decide) (by decide), e 25 (by decide) (by decide) (by decide), e 27 (by decide) (by decide) (by decide), e 29 (by decide) (by decide) (by decide)]; exact h4
        · show iE n _ _ _ _
          rw [e 16 (by decide) (by decide) (by decide), e 8 (by decide) (by decide) (by decide), e 10 (by decide) (by decide) (by decide), e 15 (by decide) (by decide) (by decide)]; exact h5
        · show iF n _ _ _ _ _ _ _ _ _ _ _
          rw [e 38 (by decide) (by decide) (by decide), e 40 (by decide) (by decide) (by decide), e 8 (by decide) (by decide) (by decide), e 12 (by decide) (by decide) (by decide), e 27 (by decide) (by decide) (by decide), e 31 (by decide) (by decide) (by decide), e 33 (by decide) (by decide) (by decide), e 36 (by decide) (by decide) (by decide), e 37 (by decide) (by decide) (by decide), e 39 (by decide) (by decide) (by decide), oM 35 (by decide) (by decide) (by decide)]; exact h6
        · show iB n _ _ _ _ _ _ _ _ _ _ _ _
          rw [e 16 (by decide) (by decide) (by decide), e 38 (by decide) (by decide) (by decide), e 40 (by decide) (by decide) (by decide), e 53 (by decide) (by decide) (by decide), e 2 (by decide) (by decide) (by decide), e 8 (by decide) (by decide) (by decide), e 19 (by decide) (by decide) (by decide), e 21 (by decide) (by decide) (by decide), e 24 (by decide) (by decide) (by decide), e 27 (by decide) (by decide) (by decide)]; exact h7
        · intro c hc
          rw [epl c, e0 c hc]
          exact ⟨List.nodup_nil, fun _ => rfl, fun u hu => by cases hu⟩
        · show iH _ _ _ _
          rw [e 44 (by decide) (by decide) (by decide), e 41 (by decide) (by decide) (by decide), e 42 (by decide) (by decide) (by decide), e 43 (by decide) (by decide) (by decide)]; exact h9
      have els : ∀ f j, isLs f → up2 (czK k' 1 K) 1 0 (nI k') f j = K f j := fun f j hf => by rw [oK f (by unfold isLs at hf; omega) (by unfold isLs at hf; omega) (by unfold isLs at hf; omega)]
      have mo : ∀ (p : Nat → Bool), (∀ f, p f = true → f ≠ 45 ∧ f ≠ 48 ∧ f ≠ 49) → ∀ f, p f = true → up2 (ckF 12 1 M) 45 0 (nI k') f = M f := fun p hp f hf => oM f (hp f hf).1 (hp f hf).2.1 (hp f hf).2.2
      have ko : ∀ (p : Nat → Bool), (∀ f, p f = true → f ≠ 1 ∧ f ≠ 61 ∧ f ≠ 62) → ∀ f, p f = true → up2 (czK k' 1 K) 1 0 (nI k') f = K f := fun p hp f hf => oK f (hp f hf).1 (hp f hf).2.1 (hp f hf).2.2
      have R2 : Rel n k' F (up2 (czK k' 1 K) 1 0 (nI k')) L (up2 (ckF 12 1 M) 45 0 (nI k')) := by
        obtain ⟨r1, r2, r3, r4, r5, r6, r7, r8, r9, r10, r11, r12⟩ := hR
        refine ⟨NK, r2.cg els, ⟨?_, ?_, ?_, ?_, ?_⟩, r4.cg a1 (ko _ (fun f hf => by have := of_decide_eq_true hf; omega)) (mo _ (fun f hf => by have := of_decide_eq_true hf; omega)), r5.cg (ko _ (fun f hf => by have := of_decide_eq_true hf; omega)) (mo _ (fun f hf => by have := of_decide_eq_true hf; omega)), r6.cg a1 (ko _ (fun f hf => by have := of_decide_eq_true hf; omega)) (mo _ (fun f hf => by have := of_decide_eq_true hf; omega)), r7.cg (ko _ (fun f hf => by have := of_decide_eq_true hf; omega)) (mo _ (fun f hf => by have := of_decide_eq_true hf; omega)), ⟨fun c h1 h2 => ?_, fun u => ?_, fun c h1 h2 => ?_⟩, r9.cg (ko _ (fun f hf => by have := of_decide_eq_true hf; omega)) (mo _ (fun f hf => by have := of_decide_eq_true hf; omega)), r10.cg (ko _ (fun f hf => by have := of_decide_eq_true hf; omega)) (mo _ (fun f hf => by have := of_decide_eq_true hf; omega)), r11.cg (mo _ (fun f hf => by have := of_decide_eq_true hf; omega)), r12.cg (oM 3 (by decide) (by decide) (by decide)) (oM 4 (by decide) (by decide) (by decide))⟩
        · rw [nN_e (oK 0 (by decide) (by decide) (by decide))]; exact r3.1
        · rw [nN_sn (by omega), vu_s]
        · rw [nN_e (oK 2 (by decide) (by decide) (by decide)), nN_e (oM 0 (by decide) (by decide) (by decide))]; exact r3.2.2.1
        · rw [nN_e (oK 3 (by decide) (by decide) (by decide)), nN_e (oM 16 (by decide) (by decide) (by decide))]; exact r3.2.2.2.1
        · rw [nN_e (oK 5 (by decide) (by decide) (by decide))]; exact r3.2.2.2.2
        · rw [lsL_e (by omega) els, epl c, nN_e (oK 60 (by decide) (by decide) (by decide))]; exact r8.1 c h1 h2
        · rw [lsL_e (by decide) els, e 2 (by decide) (by decide) (by decide), e 8 (by decide) (by decide) (by decide), e 19 (by decide) (by decide) (by decide)]; exact r8.2.1 u
        · rw [up2_f (f := 61) (by decide), up2_f (f := 62) (by decide), up2_f (f := 48) (by decide), up2_f (f := 49) (by decide), czK_at, czK_at, ckF_at, ckF_at, if_pos (by omega), if_pos (by omega), if_pos (by omega), if_pos (by omega)]
          exact ⟨rfl, rfl⟩
      obtain ⟨-, -, hN, h13, h17, hQ⟩ := hS
      have X2 : Fx K (up2 (czK k' 1 K) 1 0 (nI k')) := fun g j hg => by rw [oK g (by omega) (by omega) (by omega)]
      refine ⟨k', ⟨R2, I2, fun u h1 h2 h3 => ?_, by rw [lsL_e (by decide) els]; exact h13, by rw [e 17 (by decide) (by decide) (by decide), e 16 (by decide) (by decide) (by decide)]; exact h17, fun u h1 h2 => (hQ u h1 h2).nw hR hI h1 h2 (fun f v h3 h4 h5 _ => by rw [oK f (by omega) (by omega) (by omega)]) (oK _ (by omega) (by omega) (by omega)) (oK 50 (by decide) (by decide) (by decide))⟩, hX.ot X2⟩
      rw [e 8 (by decide) (by decide) (by decide)] at h3
      rw [e 13 (by decide) (by decide) (by decide), e 26 (by decide) (by decide) (by decide)]; exact hN u h1 h2 h3
  · rw [if_neg h, if_neg h, if_neg h]; exact ⟨rfl, k, hS, hX⟩
end ALWS
