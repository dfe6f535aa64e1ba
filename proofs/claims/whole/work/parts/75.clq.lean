/-! the class: callOffTheNamed -/
section CLQ
variable {l : Launch} {Y : YT}
def lpF (f : S3 → Nat → S3) : Nat → Nat → S3 → S3
  | 0, _, S => S
  | q + 1, t, S => lpF f q (t + 1) (f S t)
theorem lp_ok {n : Nat} {f : S3 → Nat → S3} {J : S3 → Prop} (h : ∀ S t, J S → 1 ≤ t → t ≤ n → J (f S t) ∧ PhK (f S t).1 (f S t).2.1 ≤ PhK S.1 S.2.1) : ∀ (q t : Nat) (S : S3), J S → 1 ≤ t → t + q ≤ n + 1 → J (lpF f q t S) ∧ PhK (lpF f q t S).1 (lpF f q t S).2.1 ≤ PhK S.1 S.2.1
  | 0, _, S, hJ, _, _ => ⟨hJ, Nat.le_refl _⟩
  | q + 1, t, S, hJ, h1, h2 => by
    obtain ⟨a1, a2⟩ := h S t hJ h1 (by omega)
    obtain ⟨b1, b2⟩ := lp_ok h q (t + 1) (f S t) a1 (by omega) (by omega)
    rw [lpF]
    exact ⟨b1, Nat.le_trans b2 a2⟩
def conT (n : Nat) (S : S3) (t : Nat) : S3 := ((conS n (S.1, S.2.1) t).1, (conS n (S.1, S.2.1) t).2, S.2.2)
def coS (n : Nat) (S : S3) (t : Nat) : S3 := if S.1 21 t = S.1 2 0 ∧ ¬ nI 5 ≤ S.1 16 t then conT n (offK S.1 t, S.2) t else S
/-- a stage whose end is under way -/
def PeOk (n : Nat) (K : MS) (t : Nat) : Prop := inK K n t ∧ jrOk K ∧ LA K n ∧ (isWK K t = true → hdOk K t) ∧ ∃ e0, K 3 0 = nI e0 ∧ e0 < 200
/-- what all steps keep: ends and what they bring about; the dues are paid -/
def EnP (n : Nat) (I : MS → Nat → KL → Prop) : Prop := (∀ L, CnP n (fun K F => I K F L)) ∧ (∀ K F L, I K F L → I (clrK K 13) F L) ∧ ∀ K F L t, I K F L → 1 ≤ t → t ≤ n → ¬ nI 5 ≤ K 16 t → I (nteK (offK K t) t) F L
def JS (I : MS → Nat → KL → Prop) (S : S3) : Prop := I S.1 S.2.1 S.2.2 ∧ lsL S.1 13 = []
theorem con_J {n : Nat} {I : MS → Nat → KL → Prop} (hP : EnP n I) {K : MS} {F t : Nat} {L : KL} (ht : 1 ≤ t ∧ t ≤ n) (hpe : PeOk n K t) (hI : I (nteK K t) F L) : JS I (conT n (K, F, L) t) ∧ PhK (conT n (K, F, L) t).1 (conT n (K, F, L) t).2.1 ≤ PhK K F := by
  obtain ⟨p1, p2, p3, p4, e0, p5, p6⟩ := hpe
  have hn : n ≤ 201 := by have := (((hP.1 L).1 F).1 _ hI).1; omega
  obtain ⟨a1, a2⟩ := con_ok (hP.1 L) (fun K F h => hP.2.1 K F L h) ht hn p2 p3 p4 p5 p6 hI
  refine ⟨⟨a1, ?_⟩, a2⟩
  obtain ⟨b1, b2⟩ := cn_ok (hP.1 L) (n - t) (t + 1) (nteK K t, F) hI (by omega) (by omega)
  have b3 := (duF_ok ((hP.1 L).1 _) 200 0 _ b1).1
  have hLA := (((hP.1 L).1 _).1 _ b3).2.2.2.2.1 13 (by decide)
  exact (clr_ok hLA.1).L hn
theorem pe_off {n F : Nat} {K : MS} {t : Nat} (hC : CF n F K) (ht : 1 ≤ t ∧ t ≤ n) (ho : ¬ nI 5 ≤ K 16 t) : PeOk n (offK K t) t := by
  obtain ⟨hn, hmd, ⟨e0, he, he2, he3⟩, hjr, hL, hT⟩ := hC
  obtain ⟨t1, t2, t3, t4, t5⟩ := hT t ht.1 ht.2
  exact ⟨inK_off t2, hjr, hL.up _ (nls (by decide)), t4, e0, he, he3 t ht.1 ht.2 ho⟩
theorem co_st {n : Nat} {I : MS → Nat → KL → Prop} (hP : EnP n I) (S : S3) (t : Nat) (hJ : JS I S) (h1 : 1 ≤ t) (h2 : t ≤ n) : JS I (coS n S t) ∧ PhK (coS n S t).1 (coS n S t).2.1 ≤ PhK S.1 S.2.1 := by
  unfold coS
  by_cases hc : S.1 21 t = S.1 2 0 ∧ ¬ nI 5 ≤ S.1 16 t
  · rw [if_pos hc]
    obtain ⟨K, F, L⟩ := S
    have hC := ((hP.1 L).1 F).1 K hJ.1
    have := con_J hP (L := L) ⟨h1, h2⟩ (pe_off hC ⟨h1, h2⟩ hc.2) (hP.2.2 K F L t hJ.1 h1 h2 hc.2)
    rw [PhK_off] at this
    exact this
  · rw [if_neg hc]; exact ⟨hJ, Nat.le_refl _⟩
set_option maxHeartbeats 4000000 in
theorem k_callOffTheNamed (d : Nat) (G : GH) (A : AS) (n F : Nat) (K : MS) (L : KL) (I : MS → Nat → KL → Prop) (hP : EnP n I) (hR : KR Y G A n F K L) (hJ : JS I (K, F, L)) (E : S3) (hE : E = lpF (coS n) n 1 (K, F, L)) : Cd l yX8_callOffTheNamed cX8_callOffTheNamed 3 none (d + 10) (PhK K F - PhK E.1 E.2.1) (PhK K F - PhK E.1 E.2.1) Y [.inr (.inr (some (A 0 0)))] G (fun r G' => r = none ∧ ∃ A', KR Y G' A' n E.2.1 E.1 E.2.2 ∧ AK A A') := by
  refine Ct.of (ini := False) (by decide +kernel) False.elim rfl (Nat.le_of_ble_eq_true rfl) ?_
  intro p e s m args below meth c C X
  generalize hT : PhK K F = T at *
  have lp : ∀ (q j : Nat) (G1 : GH) (A1 : AS) (K1 : MS) (F1 : Nat) (L1 : KL) (o2 : Option AV), j + q = n → KR Y G1 A1 n F1 K1 L1 → AK A A1 → JS I (K1, F1, L1) → PhK K1 F1 ≤ T → E = lpF (coS n) q (j + 1) (K1, F1, L1) → V p l e (RM (d + 10) (T - PhK E.1 E.2.1) (T - PhK E.1 E.2.1)) s m args below meth c Y (GA G s.heap.size) (QM below args s (RM (d + 10) (T - PhK E.1 E.2.1) (T - PhK E.1 E.2.1)) Y G (fun r G' => r = none ∧ ∃ A', KR Y G' A' n E.2.1 E.1 E.2.2 ∧ AK A A')) 2 G1 (T - PhK K1 F1) (T - PhK K1 F1) [some (.inr (.inr (some (A1 0 0)))), some (.inl (nI j)), o2] [] := by
    intro q
    induction q with
    | zero =>
      intro j G1 A1 K1 F1 L1 o2 hj R1 hA h1 hph hs
      rw [lpF] at hs
      obtain ⟨hn2, hmd, -⟩ := ((hP.1 L1).1 F1).1 K1 h1.1
      have e0K : K1 0 0 = nI n := hmd.1
      refine b_X8_callOffTheNamed_2.go C ⟨_, R1.mn, fun _ => ⟨trivial, ?_⟩, fun h => absurd (show K1 0 0 ≤ nI j by rw [e0K]; exact nI_le (by omega) (by omega)) h⟩
      have e1 : E.1 = K1 := by rw [hs]
      have e2 : E.2.1 = F1 := by rw [hs]
      have e3 : E.2.2 = L1 := by rw [hs]
      rw [e1, e2, e3]
      exact V_vret C X d_X8_callOffTheNamed_50 (Nat.le_refl _) (Nat.le_refl _) ⟨rfl, A1, R1, hA⟩
    | succ q ih =>
      intro j G1 A1 K1 F1 L1 o2 hj R1 hA h1 hph hs
      rw [lpF] at hs
      have hst := co_st hP (K1, F1, L1) (j + 1) h1 (by omega) (by omega)
      have hC1 := ((hP.1 L1).1 F1).1 K1 h1.1
      have hC2 := hC1
      obtain ⟨hn2, hmd, ⟨e1, he1, he12, he13⟩, hjr, hL1, hT1⟩ := hC1
      have e0K : K1 0 0 = nI n := hmd.1
      have e5K : K1 5 j = nI (j + 1) := hmd.2.2.2 j (by omega)
      have ht : 1 ≤ j + 1 ∧ j + 1 ≤ n := ⟨by omega, by omega⟩
      have nx : ∀ (K2 : MS) (F2 : Nat) (L2 : KL) (G3 : GH) (A3 : AS) (a b : Nat) (x2 : Option AV), JS I (K2, F2, L2) → PhK K2 F2 ≤ PhK K1 F1 → E = lpF (coS n) q (j + 1 + 1) (K2, F2, L2) → KR Y G3 A3 n F2 K2 L2 → AK A A3 → a ≤ T - PhK K2 F2 → b ≤ T - PhK K2 F2 → V p l e (RM (d + 10) (T - PhK E.1 E.2.1) (T - PhK E.1 E.2.1)) s m args below meth c Y (GA G s.heap.size) (QM below args s (RM (d + 10) (T - PhK E.1 E.2.1) (T - PhK E.1 E.2.1)) Y G (fun r G' => r = none ∧ ∃ A', KR Y G' A' n E.2.1 E.1 E.2.2 ∧ AK A A')) 44 G3 a b [some (.inr (.inr (some (A3 0 0)))), some (.inl (nI j)), x2] [] := by
        intro K2 F2 L2 G3 A3 a b x2 g1 g2 hs3 g3 g4 g8 g9
        refine V.widen g8 g9 ?_
        refine b_X8_callOffTheNamed_44.go C ⟨_, nI_1 _, trivial, ?_⟩
        exact ih (j + 1) G3 A3 K2 F2 L2 x2 (by omega) g3 g4 g1 (Nat.le_trans g2 hph) hs3
      have hEl : ∀ S : S3, JS I S → E = lpF (coS n) q (j + 1 + 1) S → PhK E.1 E.2.1 ≤ PhK S.1 S.2.1 := fun S g1 g2 => by
        rw [g2]; exact (lp_ok (n := n) (J := JS I) (co_st hP) q (j + 1 + 1) S g1 (by omega) (by omega)).2
      have sm0 : coS n (K1, F1, L1) (j + 1) = (K1, F1, L1) → PhK E.1 E.2.1 ≤ PhK K1 F1 ∧ ∀ (a b : Nat) (x2 : Option AV), a ≤ T - PhK K1 F1 → b ≤ T - PhK K1 F1 → V p l e (RM (d + 10) (T - PhK E.1 E.2.1) (T - PhK E.1 E.2.1)) s m args below meth c Y (GA G s.heap.size) (QM below args s (RM (d + 10) (T - PhK E.1 E.2.1) (T - PhK E.1 E.2.1)) Y G (fun r G' => r = none ∧ ∃ A', KR Y G' A' n E.2.1 E.1 E.2.2 ∧ AK A A')) 44 G1 a b [some (.inr (.inr (some (A1 0 0)))), some (.inl (nI j)), x2] [] := by
        intro es
        rw [es] at hs
        exact ⟨hEl (K1, F1, L1) h1 hs, fun a b x2 ha hb => nx K1 F1 L1 G1 A1 a b x2 h1 (Nat.le_refl _) hs R1 hA ha hb⟩
      have hE1 : PhK E.1 E.2.1 ≤ PhK K1 F1 := Nat.le_trans (hEl _ hst.1 hs) hst.2
      refine b_X8_callOffTheNamed_2.go C ⟨_, R1.mn, fun h => absurd (show nI n ≤ nI j by rw [← e0K]; exact h) (fun z => by have := (nI_leI (by omega) (by omega)).mp z; omega), fun _ => ⟨trivial, ?_⟩⟩
      refine b_X8_callOffTheNamed_10.go C ⟨_, R1.mn, _, _, R1.md, j, rfl, by omega, lb rfl, _, dec_n e5K (by omega) (by omega), _, _, R1.st ht, stC_ci _, _, R1.mn, fun h10 => ⟨trivial, ?_⟩, fun h10 => ⟨trivial, ?_⟩⟩
      · have h10 : ¬ K1 21 (j + 1) = K1 2 0 := h10
        have es := sm0 (by unfold coS; rw [if_neg (fun z => h10 z.1)])
        exact es.2 _ _ _ (Nat.le_refl _) (Nat.le_refl _)
      have h10 : K1 21 (j + 1) = K1 2 0 := h10
      refine b_X8_callOffTheNamed_28.go C ⟨trivial, ?_⟩
      refine k_X8_callOffTheNamed_29.go C X (c_hasEnded (d + 9) G1 (A1 1 (j + 1)) _ _ _ (R1.st ht)) (rest := []) rfl rfl rfl (fun _ => ⟨_, _, _, rfl, R1.st ht, stC_in _⟩) (lb rfl) (Rq.of (by omega) (by decide) (by show _ ≤ T - PhK E.1 E.2.1; omega) (by show _ ≤ T - PhK E.1 E.2.1; omega)) ?_
      rintro r G9 ⟨h9, rfl⟩
      replace h9 := h9.symm
      subst h9
      refine b_X8_callOffTheNamed_32.go C ⟨fun h32 => ⟨trivial, ?_⟩, fun h32 => ⟨trivial, ?_⟩⟩
      · have h32 : nI 5 ≤ K1 16 (j + 1) := wi_1 h32
        have es := sm0 (by unfold coS; rw [if_neg (fun z => z.2 h32)])
        exact es.2 _ _ _ (by omega) (by omega)
      have h32 : ¬ nI 5 ≤ K1 16 (j + 1) := wi_0 h32
      have es : coS n (K1, F1, L1) (j + 1) = conT n (offK K1 (j + 1), F1, L1) (j + 1) := by unfold coS; rw [if_pos ⟨h10, h32⟩]
      obtain ⟨p1, p2, p3, p4, e0, p5, p6⟩ := pe_off hC2 ht h32
      have R2 := R1.off ht
      have hIp := hP.2.2 K1 F1 L1 (j + 1) h1.1 ht.1 ht.2 h32
      have ho : PhK (offK K1 (j + 1)) F1 = PhK K1 F1 := PhK_off _
      have hcl := (con_ok (hP.1 L1) (fun K F h => hP.2.1 K F L1 h) ht (by omega) p2 p3 p4 p5 p6 hIp).2
      rw [es] at hs hst
      obtain ⟨g1, g2⟩ := hst
      unfold conT at hs g1 g2
      generalize hZ : conS n ((offK K1 (j + 1)), F1) (j + 1) = Z at hcl hs g1 g2
      obtain ⟨KZ, FZ⟩ := Z
      have g3 := hEl (KZ, FZ, L1) g1 hs
      have g2 : PhK KZ FZ ≤ PhK K1 F1 := g2
      have g3 : PhK E.1 E.2.1 ≤ PhK KZ FZ := g3
      have hcl : PhK KZ FZ ≤ PhK (offK K1 (j + 1)) F1 := hcl
      refine b_X8_callOffTheNamed_35.go C ⟨trivial, ?_⟩
      refine k_X8_callOffTheNamed_36.go C X (c_dismiss (d + 9) G1 (A1 1 (j + 1)) _ _ _ (R1.st ht)) (rest := []) rfl rfl rfl (fun _ => ⟨_, _, _, rfl, R1.st ht, stC_in _⟩) (lb rfl) (Rq.of (by omega) (by decide) (by show _ ≤ T - PhK E.1 E.2.1; omega) (by show _ ≤ T - PhK E.1 E.2.1; omega)) ?_
      rintro r G9 ⟨rfl, rfl⟩
      refine b_X8_callOffTheNamed_39.go C ⟨trivial, ?_⟩
      have kc := k_conclude (l := l) d _ A1 n F1 (offK K1 (j + 1)) L1 (j + 1) e0 (fun K F => I K F L1) (hP.1 L1) R2 ht p1 p2 p3 p4 p5 p6 hIp
      rw [hZ] at kc
      have kc : Cd l yX8_conclude cX8_conclude 5 none (d + 9) (PhK (offK K1 (j + 1)) F1 - PhK KZ FZ) (PhK (offK K1 (j + 1)) F1 - PhK KZ FZ) Y [.inr (.inr (some (A1 0 0))), .inr (.inr (some (A1 1 (j + 1))))] _ (fun r G' => r = none ∧ ∃ A', KR Y G' A' n FZ KZ L1 ∧ AK A1 A') := kc
      refine k_X8_callOffTheNamed_41.go C X kc (rest := []) rfl rfl rfl (fun _ => ⟨_, _, _, rfl, R2.mn, by decide⟩) (lb rfl) (Rq.of (by omega) (by decide) (by show _ ≤ T - PhK E.1 E.2.1; omega) (by show _ ≤ T - PhK E.1 E.2.1; omega)) ?_
      rintro r G8 ⟨rfl, A4, R8, hA4⟩
      rw [← hA4.kt, ← hA4.sg (j + 1)]
      exact nx KZ FZ L1 G8 A4 _ _ _ g1 g2 hs R8 (hA.tr hA4) (by omega) (by omega)
  refine b_X8_callOffTheNamed_0.go C ⟨trivial, ?_⟩
  have := lp n 0 G A K F L none (by omega) hR (AK.rf A) hJ (by omega) hE
  rw [hT, Nat.sub_self] at this
  exact this
end CLQ
