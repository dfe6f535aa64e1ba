/-! a cook's turn, on both sides -/
section TRNS
variable {n k F w x y : Nat} {K K1 K' : MS} {L L' : KL} {M M1 M' : MS} {t h c b : Nat}
/-- what keeps a state at rest -/
def FrB (M M' : MS) : Prop := (∀ f, mS f = true → M' f = M f) ∧ (∀ f, f = 8 ∨ f = 12 ∨ f = 13 ∨ f = 16 ∨ f = 17 ∨ f = 26 → M' f = M f) ∧ (∀ u, nN M' 19 u = 0 → nN M 19 u = 0) ∧ (∀ g, g < nN M 38 0 → nN M' 33 g = nN M 33 g) ∧ nN M 38 0 ≤ nN M' 38 0
theorem FrA.fb (h : FrA M M' t) : FrB M M' := ⟨h.1, fun f hf => h.2.1 f (by omega), fun u hu => by
  by_cases c : u = t
  · subst c; exact absurd hu h.2.2.2.1
  · rw [(h.2.2.1 u c).1] at hu; exact hu, h.2.2.2.2⟩
theorem FrB.same (o : ∀ f, f < 39 → M' f = M f) : FrB M M' := ⟨fun f hf => o f (by have := of_decide_eq_true hf; omega), fun f hf => o f (by omega), fun u hu => by rw [nN_e (o 19 (by decide))] at hu; exact hu, fun g _ => by rw [nN_e (o 33 (by decide))], by rw [nN_e (o 38 (by decide))]; exact Nat.le_refl _⟩
theorem FrB.tr (h1 : FrB M M1) (h2 : FrB M1 M') : FrB M M' := by
  obtain ⟨a1, a2, a3, a4, a5⟩ := h1
  obtain ⟨b1, b2, b3, b4, b5⟩ := h2
  exact ⟨fun f hf => (b1 f hf).trans (a1 f hf), fun f hf => (b2 f hf).trans (a2 f hf), fun u hu => a3 u (b3 u hu), fun g hg => (b4 g (by omega)).trans (a4 g hg), by omega⟩
theorem Rst.wb {F' w' : Nat} (hS : Rst n k w F K L M) (fr : FrB M M') (hR' : Rel n k F' K' L' M') (hI' : Inv n k w' 0 0 M') (l13 : lsL K' 13 = lsL K 13) : Rst n k w' F' K' L' M' := by
  obtain ⟨hR, hI, hN, h13, h17, hQ⟩ := hS
  obtain ⟨f1, f2, f4, f5, f6⟩ := fr
  refine ⟨hR', hI', fun u a b c => ?_, by rw [l13, h13], by rw [nN_e (f2 17 (by decide)), nN_e (f2 16 (by decide))]; exact h17, fun u u1 u2 => ?_⟩
  · rw [nN_e (f2 8 (by decide))] at c
    rw [nN_e (f2 13 (by decide)), nN_e (f2 26 (by decide))]; exact hN u a b c
  · exact (hQ u u1 u2).keep hR hI hR' hI' u1 u2 f1 (fun z => by rw [nN_e (f2 8 (by decide))] at z; exact z) (fun _ z => f4 u z) (fun s _ => by rw [nN_e (f2 8 (by decide))]) (fun s _ _ => by rw [nN_e (f2 12 (by decide))]) f5 f6
theorem Rel.ck (hR : Rel n k F K L M) (hn : n ≤ 200) (oK : ∀ f, f ≠ 61 → f ≠ 62 → K' f = K f) (oM : ∀ f, f ≠ 48 → f ≠ 49 → M' f = M f) (hc : ∀ c, 1 ≤ c → c ≤ k → K' 61 c = M' 48 c ∧ K' 62 c = M' 49 c) : Rel n k F K' L M' ∧ ∀ c, c ≤ 13 → lsL K' c = lsL K c := by
  have N' : NT exK K' := fun f i hf => by
    have e : K' f = K f := oK f (fun z => by subst z; cases hf) (fun z => by subst z; cases hf)
    unfold nN; rw [e]; exact hR.nt f i hf
  have els : ∀ f j, isLs f → K' f j = K f j := fun f j hf => by rw [oK f (by unfold isLs at hf; omega) (by unfold isLs at hf; omega)]
  have el : ∀ c, c ≤ 13 → lsL K' c = lsL K c := fun c hc => lsL_e hc els
  obtain ⟨r1, r2, r3, r4, r5, r6, r7, r8, r9, r10, r11, r12⟩ := hR
  refine ⟨⟨N', r2.cg els, r3.cg (fun f hf => oK f (by have := of_decide_eq_true hf; omega) (by have := of_decide_eq_true hf; omega)) (fun f hf => oM f (by have := of_decide_eq_true hf; omega) (by have := of_decide_eq_true hf; omega)), r4.cg hn (fun f hf => oK f (by have := of_decide_eq_true hf; omega) (by have := of_decide_eq_true hf; omega)) (fun f hf => oM f (by have := of_decide_eq_true hf; omega) (by have := of_decide_eq_true hf; omega)), r5.cg (fun f hf => oK f (by have := of_decide_eq_true hf; omega) (by have := of_decide_eq_true hf; omega)) (fun f hf => oM f (by have := of_decide_eq_true hf; omega) (by have := of_decide_eq_true hf; omega)), r6.cg hn (fun f hf => oK f (by have := of_decide_eq_true hf; omega) (by have := of_decide_eq_true hf; omega)) (fun f hf => oM f (by have := of_decide_eq_true hf; omega) (by have := of_decide_eq_true hf; omega)), r7.cg (fun f hf => oK f (by have := of_decide_eq_true hf; omega) (by have := of_decide_eq_true hf; omega)) (fun f hf => oM f (by have := of_decide_eq_true hf; omega) (by have := of_decide_eq_true hf; omega)), ⟨fun c h1 h2 => ?_, fun u => ?_, hc⟩, r9.cg (fun f hf => oK f (by have := of_decide_eq_true hf; omega) (by have := of_decide_eq_true hf; omega)) (fun f hf => oM f (by have := of_decide_eq_true hf; omega) (by have := of_decide_eq_true hf; omega)), r10.cg (fun f hf => oK f (by have := of_decide_eq_true hf; omega) (by have := of_decide_eq_true hf; omega)) (fun f hf => oM f (by have := of_decide_eq_true hf; omega) (by have := of_decide_eq_true hf; omega)), r11.cg (fun f hf => oM f (by have := of_decide_eq_true hf; omega) (by have := of_decide_eq_true hf; omega)), r12.cg (oM 3 (by decide) (by decide)) (oM 4 (by decide) (by decide))⟩, el⟩
  · rw [el c (by omega), pl_e (oM 46 (by decide) (by decide)) (oM 47 (by decide) (by decide)), nN_e (oK 60 (by decide) (by decide))]; exact r8.1 c h1 h2
  · rw [el 0 (by decide), nN_e (oM 2 (by decide) (by decide)), nN_e (oM 8 (by decide) (by decide)), nN_e (oM 19 (by decide) (by decide))]; exact r8.2.1 u
theorem Rel.upm (hR : Rel n k F K L M) (hI : Inv n k w x y M) (h1 : 1 ≤ c) (h2 : c ≤ 12) : upmK K c = upY M c ∧ upN M c = nI (upY M c) ∧ (upY M c = 0 ∨ upY M c ∈ plM M c) ∧ upY M c ≤ n := by
  have a1 := hI.a.1
  obtain ⟨u, u1, u2, u3⟩ := up_in hI (c := c) h2
  have e : upY M c = u := by unfold upY; rw [u2, nI_clamp (by omega)]
  refine ⟨?_, by rw [e]; exact u2, by rw [e]; exact u3, by omega⟩
  unfold upmK upY upN
  rw [(hR.p.1 c h1 h2).1, pl_len]
  by_cases hq : nN M 47 c = 0
  · rw [if_pos hq]
    have : plM M c = [] := List.eq_nil_of_length_eq_zero (by rw [pl_len]; exact hq)
    rw [this]; rfl
  · rw [if_neg hq]
    unfold plM
    rw [List.getElem?_map, List.getElem?_range (by omega), show 201 * c + nN M 47 c - 1 = 201 * c + (nN M 47 c - 1) by omega]
    rfl
theorem TkE.u48 (E : TkE M M1 c b) (j : Nat) (v : Int32) : TkE (up2 M 48 j v) (up2 M1 48 j v) c b := by
  obtain ⟨⟨m19, m21, m22, m23, m24, m25⟩, lg, mpl, mN, mf⟩ := E
  have e : ∀ (X : MS) f, f ≠ 48 → nN (up2 X 48 j v) f = nN X f := fun X f h => nN_f h
  refine ⟨⟨?_, ?_, ?_, ?_, ?_, ?_⟩, ?_, fun c' hc' => ?_, mN.upx rfl, fun f hf => ?_⟩
  · rw [e _ 19 (by decide), e _ 19 (by decide)]; exact m19
  · rw [e _ 21 (by decide), e _ 21 (by decide)]; exact m21
  · rw [e _ 22 (by decide), e _ 22 (by decide), e _ 0 (by decide)]; exact m22
  · rw [e _ 23 (by decide), e _ 23 (by decide), e _ 0 (by decide), e _ 2 (by decide), e _ 18 (by decide)]; exact m23
  · rw [e _ 24 (by decide), e _ 24 (by decide), e _ 2 (by decide)]; exact m24
  · rw [e _ 25 (by decide), e _ 25 (by decide)]; exact m25
  · unfold lgE
    rw [e _ 50 (by decide), e _ 50 (by decide), e _ 51 (by decide), e _ 51 (by decide), e _ 52 (by decide), e _ 52 (by decide), e _ 53 (by decide), e _ 53 (by decide), e _ 0 (by decide)]; exact lg
  · rw [pl_e (up2_f (by decide)) (up2_f (by decide)), pl_e (M := M) (up2_f (by decide)) (up2_f (by decide)), pl_e (M := M) (up2_f (by decide)) (up2_f (by decide))]; exact mpl c' hc'
  · by_cases h : f = 48
    · subst h; rw [up2_va, up2_va, mf 48 hf]
    · rw [up2_f h, up2_f h]; exact mf f hf
/-- one step of a cook's turn: no end -/
def TnA (n k w c F : Nat) (K : MS) (L : KL) (M : MS) : Prop := rtE K F c = 0 ∧ ∃ M', (∀ q, trnF n c (q + 1) M = M') ∧ FrB M M' ∧ Rel n k (rtF K F c) (rtK K F L c) (rtL K L c) M' ∧ Inv n k w 0 0 M' ∧ lsL (rtK K F L c) 13 = lsL K 13
/-- one step of a cook's turn: an end -/
def TnB (n k w c F : Nat) (K : MS) (L : KL) (M : MS) : Prop := ∃ y r M1 M', rtE K F c = y ∧ (1 ≤ y ∧ y ≤ n) ∧ nN M 8 y = 0 ∧ FrB M M1 ∧ Rel n k F (rtR K y) L M1 ∧ Inv n k w 0 1 M1 ∧ Inv n k w 0 0 M' ∧ lsL (rtR K y) 13 = lsL K 13 ∧ RsM n F M1 M' y r ∧ rtK K F L c = resK (rtR K y) y F r ∧ rtF K F c = resF F r ∧ rtL K L c = L ∧ resM n M y = folM n M' y ∧ ∀ q, trnF n c (q + 1) M = if resM n M y 8 y = 0 then resM n M y else trnF n c q (resM n M y)
theorem tk_sim {u : Nat} (hR : Rel n k F K L M) (hI : Inv n k w 0 0 M) (h1c : 1 ≤ c) (hck : c ≤ k) (hu : u ≤ n) : (chsK K L u = 0 ∧ bstN n (tkH n M u) u = 0 ∧ tkeM n M c u = tkH n M u) ∨ (∃ b, b ≠ 0 ∧ (1 ≤ b ∧ b ≤ n) ∧ chsK K L u = b ∧ bstN n (tkH n M u) u = b ∧ tkeM n M c u = tkA (tkH n M u) c b ∧ TkE (tkH n M u) (tkeM n M c u) c b ∧ nN M 8 b = 0 ∧ 9 ≤ nN M 2 b ∧ nN M 19 b = 1) := by
  have e := chs_sim hR hI hu
  rcases tke_R hI (c := c) (u := u) with h | ⟨b, ⟨h1, h2, h3, h4, h5⟩, h6, h7⟩
  · by_cases c0 : bstN n (tkH n M u) u = 0
    · exact Or.inl ⟨e.trans c0, c0, h⟩
    · rcases bstF_or (tkH n M u) u n 1 0 with q | ⟨q1, q2, q3⟩
      · exact absurd q c0
      · have m := (may_iff (tkH_nt hI.nt)).mp q3
        rw [nN_e (tkH_o (by decide)), nN_e (tkH_o (by decide)), nN_e (tkH_o (by decide))] at m
        have hb : bstN n (tkH n M u) u ≤ n := by show bstF (tkH n M u) u n 1 0 ≤ n; omega
        have e6 : tkeM n M c u = tkA (tkH n M u) c (bstN n (tkH n M u) u) := by unfold tkeM; rw [if_neg c0]
        have E := tk_E (c := c) (b := bstN n (tkH n M u) u) (hI.tkH (u := u)) (by decide) hck q1 hb (by rw [nN_e (tkH_o (by decide))]; exact m.1)
        exact Or.inr ⟨_, c0, ⟨q1, hb⟩, e, rfl, e6, by rw [e6]; exact E, m.2.1, m.1, m.2.2.1⟩
  · have E := tk_E (c := c) (b := b) (hI.tkH (u := u)) (by decide) hck h1 h2 (by rw [nN_e (tkH_o (by decide))]; exact h3)
    exact Or.inr ⟨b, by omega, ⟨h1, h2⟩, by rw [e, h7], h7.symm, h6, by rw [h6]; exact E, h4, h3, h5⟩
theorem rt_cases (hR : Rel n k F K L M) (hI : Inv n k w 0 0 M) (h13 : lsL K 13 = []) (h1c : 1 ≤ c) (hck : c ≤ k) : TnA n k w c F K L M ∨ TnB n k w c F K L M := by
  have a1 := hI.a.1
  have a3 := hI.a.2.2.1
  obtain ⟨p1, p2, p3, p4⟩ := hR.upm hI h1c (show c ≤ 12 by omega)
  have hTH : ∀ u, u ≤ n → Rel n k F K L (tkH n M u) ∧ FrB M (tkH n M u) := fun u hu => ⟨hR.mcg a1 (fun f hf _ _ => tkH_o (by omega)), FrB.same (fun f hf => tkH_o (by omega))⟩
  by_cases c0 : upY M c = 0
  · left
    unfold TnA rtE rtF rtK rtL
    rw [p1, if_pos c0, if_pos c0, if_pos c0, if_pos c0]
    refine ⟨rfl, tkeM n M c 0, fun q => by rw [trnF, if_pos c0], ?_⟩
    obtain ⟨R1, B1⟩ := hTH 0 (Nat.zero_le _)
    rcases tk_sim hR hI h1c hck (Nat.zero_le n) with ⟨e1, e2, e3⟩ | ⟨b, b0, b1, e1, e2, e3, E, o1, o2, o3⟩
    · rw [e1, if_pos rfl, if_pos rfl, e3]
      exact ⟨B1, R1, hI.tkH, rfl⟩
    · rw [e1, if_neg b0, if_neg b0]
      have r := R1.take (hI.tkH) h1c hck b1.1 b1.2 (by rw [nN_e (tkH_o (by decide))]; exact o1) (by rw [nN_e (tkH_o (by decide))]; exact o2) (by rw [nN_e (tkH_o (by decide))]; exact o3) E
      exact ⟨B1.tr E.fr.fb, r.1, tk_inv (hI.tkH) h1c hck b1.1 b1.2 (by rw [nN_e (tkH_o (by decide))]; exact o1) (by rw [nN_e (tkH_o (by decide))]; exact o2) (by rw [nN_e (tkH_o (by decide))]; exact o3) E, r.2.1⟩
  · have hm : upY M c ∈ plM M c := p3.elim (fun z => absurd z c0) id
    have pp := (hI.p c (by omega)).2.2 _ hm
    generalize hY : upY M c = Y at *
    have ho := pp.2.2.2.1
    have h9 := pp.2.2.1
    have k16 : K 16 Y = nI 3 ↔ nN M 19 Y = 3 := by
      rw [hR.nt.eq rfl (by decide), (hR.d Y pp.1 pp.2.1).1]; unfold stt; rw [if_pos ho, if_neg (by omega)]
    have m19 : M 19 Y = nI 3 ↔ nN M 19 Y = 3 := hI.nt.eq rfl (by decide)
    by_cases c3 : nN M 19 Y = 3
    · have h11 := (((hI.d Y pp.1 pp.2.1).2.2.2.2 h9).2 ho).2.2.1 c3
      have h4 : nN M 4 Y = 1 := (hI.s.2 Y pp.1 pp.2.1).1.2.2.2.1 (Or.inr (Or.inr (Or.inl h11)))
      have hin : iN M Y 0 ∈ inL M Y := inL_mem.mpr ⟨0, by omega, rfl⟩
      have bI := inL_b hI.s pp.1 pp.2.1 hin
      have eI : iK K Y 0 = iN M Y 0 := iK_iN hR pp.1 pp.2.1 (by omega)
      have m8 : M 8 (iN M Y 0) = 0 ↔ nN M 8 (iN M Y 0) = 0 := hI.nt.z rfl
      have k8 : nI 5 ≤ K 16 (iN M Y 0) ↔ nN M 8 (iN M Y 0) ≠ 0 := (hR.k16 hI bI.1 (by omega)).1
      by_cases c8 : nN M 8 (iN M Y 0) = 0
      · left
        have n8 : ¬ nI 5 ≤ K 16 (iN M Y 0) := fun z => (k8.mp z) c8
        unfold TnA rtE rtF rtK rtL
        rw [p1, if_neg c0, if_neg c0, if_neg c0, if_neg c0, if_pos (k16.mpr c3), if_pos (k16.mpr c3), if_pos (k16.mpr c3), if_pos (k16.mpr c3), eI, if_neg n8, if_neg n8, if_neg n8, if_neg n8]
        refine ⟨rfl, hlpM n M c Y, fun q => by rw [trnF, hY, if_neg c0, if_pos (m19.mpr c3), if_pos (m8.mpr c8)], ?_⟩
        unfold hlpM
        have hu : iN M Y 0 ≤ n := by omega
        generalize iN M Y 0 = u at *
        obtain ⟨R1, B1⟩ := hTH u hu
        rcases tk_sim hR hI h1c hck hu with ⟨e1, e2, e3⟩ | ⟨b, b0, b1, e1, e2, e3, E, o1, o2, o3⟩
        · rw [e1, e2, if_pos rfl, if_pos rfl, if_pos rfl, e3, up2_id]
          exact ⟨B1, R1, hI.tkH, rfl⟩
        · rw [e1, e2, if_neg b0, if_neg b0, if_neg b0]
          have e48 : tkeM n M c u 48 = M 48 := (E.2.2.2.2 48 rfl).trans (tkH_o (by decide))
          rw [e48]
          have E2 := E.u48 c (M 48 c + nI 1)
          have RH : Rel n k F (rtH K c) L (up2 (tkH n M u) 48 c (M 48 c + nI 1)) := (R1.ck a1 (fun f h1 _ => up2_f h1) (fun f h1 _ => up2_f h1) (fun c' h1 h2 => by
            have pc := R1.p.2.2 c' h1 h2
            rw [up2_f (f := 62) (by decide), up2_f (f := 49) (by decide)]
            refine ⟨?_, pc.2⟩
            by_cases cc : c' = c
            · subst cc; rw [up2_s, up2_s, pc.1, tkH_o (by decide)]
            · rw [up2_n (by omega), up2_n (by omega)]; exact pc.1)).1
          have IH : Inv n k w 0 0 (up2 (tkH n M u) 48 c (M 48 c + nI 1)) := (hI.tkH (u := u)).cg ((hI.tkH (u := u)).nt.upx rfl) (fun f hf => up2_f (fne hf rfl))
          have g8 : nN (up2 (tkH n M u) 48 c (M 48 c + nI 1)) 8 b = 0 := by rw [nN_f (by decide), nN_e (tkH_o (by decide))]; exact o1
          have g2 : 9 ≤ nN (up2 (tkH n M u) 48 c (M 48 c + nI 1)) 2 b := by rw [nN_f (by decide), nN_e (tkH_o (by decide))]; exact o2
          have g19 : nN (up2 (tkH n M u) 48 c (M 48 c + nI 1)) 19 b = 1 := by rw [nN_f (by decide), nN_e (tkH_o (by decide))]; exact o3
          have r := RH.take IH h1c hck b1.1 b1.2 g8 g2 g19 E2
          have eO : tkO (rtH K c) b = tkO K b := by unfold tkO rtH; rw [up2_f (f := 2) (by decide), up2_f (f := 11) (by decide), up2_f (f := 23) (by decide)]
          rw [eO] at r
          refine ⟨(B1.tr (FrB.same (M' := up2 (tkH n M u) 48 c (M 48 c + nI 1)) (fun f hf => up2_f (by omega)))).tr E2.fr.fb, r.1, tk_inv IH h1c hck b1.1 b1.2 g8 g2 g19 E2, ?_⟩
          rw [r.2.1]
          unfold rtH
          rw [lsL_up (by decide) (by omega)]
      · have y8 : nI 5 ≤ K 16 (iN M Y 0) := k8.mpr c8
        obtain ⟨I1, lg, N1, o1⟩ := hI.note (t := Y) (ev := 6) (by decide) (by omega) (by decide)
        have r1 := hR.note hI (by decide) (by decide) pp.1 pp.2.1 (show 6 ≤ 7 by decide) lg o1
        have R1 : Rel n k F (rtR K Y) L (noteM M (nN M 53 0) (nI Y) (nI 6)) := r1.1
        have l1 : lsL (rtR K Y) 13 = lsL K 13 := r1.2.1
        clear r1
        have eM : ∀ q, trnF n c (q + 1) M = if resM n M Y 8 Y = 0 then resM n M Y else trnF n c q (resM n M Y) := fun q => by
          rw [trnF, hY, if_neg c0, if_pos (m19.mpr c3), if_neg (fun z => c8 (m8.mp z))]
        have eR : resM n M Y = gonM n (noteM M (nN M 53 0) (nI Y) (nI 6)) Y := rfl
        have fr1 : FrB M (noteM M (nN M 53 0) (nI Y) (nI 6)) := FrB.same (fun f hf => o1 f (by unfold noF; split <;> first | omega | rfl))
        generalize hM1 : noteM M (nN M 53 0) (nI Y) (nI 6) = M1 at *
        have e8 : nN M1 8 = nN M 8 := nN_e (o1 8 rfl)
        have e2 : nN M1 2 = nN M 2 := nN_e (o1 2 rfl)
        have e4 : nN M1 4 = nN M 4 := nN_e (o1 4 rfl)
        have e19 : nN M1 19 = nN M 19 := nN_e (o1 19 rfl)
        have ei : iN M1 Y 0 = iN M Y 0 := by unfold iN; rw [nN_e (o1 3 rfl)]
        have hoM : nN M1 8 Y = 0 := by rw [e8]; exact ho
        have eE : rtE K F c = if nI 5 ≤ mtK (rtR K Y) F Y 16 Y then Y else 0 := by
          unfold rtE; rw [p1, if_neg c0, if_pos (k16.mpr c3), eI, if_pos y8]
        have eK : rtK K F L c = mtK (rtR K Y) F Y := by
          unfold rtK; rw [p1, if_neg c0, if_pos (k16.mpr c3), eI, if_pos y8]
        have eF : rtF K F c = mtN (rtR K Y) F Y := by
          unfold rtF; rw [p1, if_neg c0, if_pos (k16.mpr c3), eI, if_pos y8]
        have eL : rtL K L c = mtL (rtR K Y) L Y := by
          unfold rtL; rw [p1, if_neg c0, if_pos (k16.mpr c3), eI, if_pos y8]
        rcases mt_cases (L := L) R1 I1 (by decide) pp.1 pp.2.1 hoM (show 1 ≤ nN M1 4 Y by rw [e4]; omega) (by rw [ei, e8]; exact c8) with ⟨c1, z1, z2, z3⟩ | ⟨c1, r, r1, z1, z2, z3⟩
        · left
          obtain ⟨ES, IS⟩ := se_E (y' := 0) I1 pp.1 pp.2.1 hoM (by rw [e2]; exact h11) (Or.inr (by rw [e19]; exact c3)) (by rw [e19, c3]; exact (show 1 + 1 ≤ 0 + 2 by decide))
          obtain ⟨RS, ls, -⟩ := R1.sec I1 pp.1 pp.2.1 hoM (by rw [e2]; exact h11) (Or.inr (by rw [e19]; exact c3)) ES
          have g8 : nN (gonV M1 Y) 8 Y = 0 := by rw [nN_e (ES.2.2.2.2 8 rfl)]; exact hoM
          have eG : resM n M Y = gonV M1 Y := by rw [eR]; unfold gonM; rw [if_pos ((I1.nt.eq rfl (by decide)).mpr c1)]
          have RS' : Rel n k F (mtK (rtR K Y) F Y) (mtL (rtR K Y) L Y) (gonV M1 Y) := by rw [z1, z3]; exact RS
          have n5 : ¬ nI 5 ≤ mtK (rtR K Y) F Y 16 Y := fun z => ((RS'.k16 IS pp.1 pp.2.1).1.mp z) g8
          refine ⟨by rw [eE, if_neg n5], gonV M1 Y, fun q => by rw [eM, eG, if_pos ((IS.nt.z rfl).mpr g8)], fr1.tr ES.fr.fb, by rw [eF, eK, eL, z2]; exact RS', IS, ?_⟩
          rw [eK, z1, ls]; exact l1
        · right
          have hrs := res_sim R1 I1 (by decide) pp.1 pp.2.1 hoM r1 (Or.inl (by rw [l1, h13]; simp)) (by rw [l1, h13]; simp)
          have n5 : nI 5 ≤ mtK (rtR K Y) F Y 16 Y := by rw [z1]; exact hrs.2.1
          refine ⟨Y, r, M1, gonE M1 Y, by rw [eE, if_pos n5], ⟨pp.1, pp.2.1⟩, ho, fr1, R1, I1, ?_, l1, r1, by rw [eK, z1], by rw [eF, z2], by rw [eL, z3], ?_, eM⟩
          · exact hrs.2.2.1.inv I1 pp.1 pp.2.1 hoM (by rw [e2, e19, h11, c3]; exact (show 1 + 1 ≤ 0 + 2 by decide))
          · rw [eR]; unfold gonM; rw [if_neg (fun z => c1 ((I1.nt.eq rfl (by decide)).mp z))]
    · left
      have n3 : ¬ K 16 Y = nI 3 := fun z => c3 (k16.mp z)
      unfold TnA rtE rtF rtK rtL
      rw [p1, if_neg c0, if_neg c0, if_neg c0, if_neg c0, if_neg n3, if_neg n3, if_neg n3, if_neg n3]
      exact ⟨rfl, M, fun q => by rw [trnF, hY, if_neg c0, if_neg (fun z => c3 (m19.mp z))], FrB.same (fun _ _ => rfl), hR, hI, rfl⟩
/-- the turn of a cook -/
theorem tc_sim (h1c : 1 ≤ c) (hck : c ≤ k) : ∀ (q : Nat) (K : MS) (F : Nat) (L : KL) (M : MS), Rst n k w F K L M → Rst n k w (tcF n c q (K, F, L)).2.1 (tcF n c q (K, F, L)).1 (tcF n c q (K, F, L)).2.2 (trnF n c q M)
  | 0, _, _, _, _, h => h
  | q + 1, K, F, L, M, hS => by
    obtain ⟨hR, hI, hN, h13, h17, hQ⟩ := hS
    have hn := hI.a.1
    rw [tcF]
    rcases rt_cases hR hI h13 h1c hck with ⟨e0, M', eM, fr, R2, I2, l2⟩ | ⟨Y, r, M1, M', eE, hY, ho, fr, R1, I1, I2, l1, hr, eK, eF, eL, eR, eM⟩
    · rw [if_pos e0, eM q]
      exact Rst.wb ⟨hR, hI, hN, h13, h17, hQ⟩ fr R2 I2 l2
    · have eE0 : ¬ rtE (K, F, L).1 (K, F, L).2.1 c = 0 := by show ¬ rtE K F c = 0; omega
      rw [if_neg eE0]
      have N1 : Nd n M1 := fun u a b z => by
        rw [nN_e (fr.2.1 8 (by decide))] at z
        rw [nN_e (fr.2.1 13 (by decide)), nN_e (fr.2.1 26 (by decide))]; exact hN u a b z
      have ho1 : nN M1 8 Y = 0 := by rw [nN_e (fr.2.1 8 (by decide))]; exact ho
      have h17' : nN M1 17 0 = nN M1 16 0 := by rw [nN_e (fr.2.1 17 (by decide)), nN_e (fr.2.1 16 (by decide))]; exact h17
      obtain ⟨S2, h5, E2, R2⟩ := end_con R1 I1 (by decide) N1 (by rw [l1, h13]) h17' hY.1 hY.2 ho1 hr I2 (fun u u1 u2 R' E' => by
        have st := E'.st
        refine (hQ u u1 (by omega)).keep hR hI R' I2 u1 (by omega) (fun f hf => (st.1 f hf).trans (fr.1 f hf)) (fun z => ?_) (fun _ z => fr.2.2.1 u (by rw [nN_e st.2.1] at z; exact z)) (fun s hs => ?_) (fun s hs _ => ?_) (fun g hg => ?_) ?_
        · rw [(st.2.2.1 u (by omega)).1, nN_e (fr.2.1 8 (by decide))] at z; exact z
        · have hst : s ≠ Y := fun z => by have := inL_b hI.s u1 (show u ≤ n by omega) hs; omega
          rw [(st.2.2.1 s hst).1, nN_e (fr.2.1 8 (by decide))]
        · have hst : s ≠ Y := fun z => by have := inL_b hI.s u1 (show u ≤ n by omega) hs; omega
          rw [(st.2.2.1 s hst).2, nN_e (fr.2.1 12 (by decide))]
        · rw [st.2.2.2.1 g (by have := fr.2.2.2.2; omega)]; exact fr.2.2.2.1 g hg
        · have := st.2.2.2.2.1; have := fr.2.2.2.2; omega)
      have ec : conT n (rtK (K, F, L).1 (K, F, L).2.1 (K, F, L).2.2 c, rtF (K, F, L).1 (K, F, L).2.1 c, rtL (K, F, L).1 (K, F, L).2.2 c) (rtE (K, F, L).1 (K, F, L).2.1 c) = conT n (resK (rtR K Y) Y F r, resF F r, L) Y := by
        show conT n (rtK K F L c, rtF K F c, rtL K L c) (rtE K F c) = _
        rw [eK, eF, eL, eE]
      rw [ec, eM q]
      have h8 : ¬ resM n M Y 8 Y = 0 := fun z => by
        have W2 : W55 M' (folM n M' Y) := fol_W (W := W55 M') (fun A B u a b => b.tr (W55.ask a)) (fun A v a => a.tr (W55.same (fun f hf => up2_f (by omega)))) I2 (by rw [nN_e E2.fr.2.2.1, E2.e16, h17']; omega) (W55.same (fun _ _ => rfl)) hY.2
        rw [eR] at z
        exact E2.e8 (W2.2.1 Y ((S2.2.1.nt.z rfl).mp z))
      rw [if_neg h8, eR]
      exact tc_sim h1c hck q _ _ _ _ S2
theorem tn_sim : ∀ (q c : Nat) (K : MS) (F : Nat) (L : KL) (M : MS), Rst n k w F K L M → 1 ≤ c → c + q ≤ k + 1 → Rst n k w (lpF (tcS n) q c (K, F, L)).2.1 (lpF (tcS n) q c (K, F, L)).1 (lpF (tcS n) q c (K, F, L)).2.2 (rnT n q c M)
  | 0, _, _, _, _, _, h, _, _ => h
  | q + 1, c, K, F, L, M, hS, h1, h2 => by
    rw [lpF, rnT]
    exact tn_sim q (c + 1) _ _ _ _ (tc_sim h1 (by omega) 201 K F L M hS) (by omega) (by omega)
end TRNS
