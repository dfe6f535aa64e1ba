/-! the class: treatWorksOver -/
section CLS
variable {l : Launch} {Y : YT}
def twK (K : MS) (F t : Nat) : MS := if K 28 t = 0 then fnK K F t else mtK K F t
def twN (K : MS) (F t : Nat) : Nat := if K 28 t = 0 then fnF K F t else mtN K F t
def twL (K : MS) (L : KL) (t : Nat) : KL := if K 28 t = 0 then fnL K L t else mtL K L t
def twS (n : Nat) (S : S3) (t : Nat) : S3 := if isWK S.1 t = true ∧ S.1 16 t = nI 2 ∧ S.1 25 t = S.1 2 0 then (if nI 5 ≤ twK S.1 S.2.1 t 16 t then conT n (twK S.1 S.2.1 t, twN S.1 S.2.1 t, twL S.1 S.2.2 t) t else (twK S.1 S.2.1 t, twN S.1 S.2.1 t, twL S.1 S.2.2 t)) else S
/-- what a working's end keeps -/
def TwP (n : Nat) (I : MS → Nat → KL → Prop) : Prop := ∀ K F L t, I K F L → lsL K 13 = [] → 1 ≤ t → t ≤ n → isWK K t = true → K 16 t = nI 2 → K 25 t = K 2 0 → F + 1 ≤ 2000 ∧ (K 28 t = 0 → fnOk K n t) ∧ (¬ K 28 t = 0 → 1 ≤ nN K 12 t ∧ ∃ w, w ≤ 100000 ∧ bsO K t = nI w) ∧ lsL (twK K F t) 13 = [] ∧ isWK (twK K F t) t = true ∧ (nI 5 ≤ twK K F t 16 t → PeOk n (twK K F t) t ∧ I (nteK (twK K F t) t) (twN K F t) (twL K L t)) ∧ (¬ nI 5 ≤ twK K F t 16 t → I (twK K F t) (twN K F t) (twL K L t))
theorem tw_le {n : Nat} {K : MS} {F t : Nat} (hj : jrOk K) (hn : n ≤ 201) (ht : t ≤ n) (hF : F + 1 ≤ 2000) (h : K 28 t = 0 → fnOk K n t) : (if K 28 t = 0 then fnC K F t else mtC K t) + PhK (twK K F t) (twN K F t) ≤ PhK K F := by
  unfold twK twN
  by_cases h0 : K 28 t = 0
  · rw [if_pos h0, if_pos h0, if_pos h0]; exact fn_le (h h0) hn ht hF
  · rw [if_neg h0, if_neg h0, if_neg h0]; exact mt_le hj hF
theorem tw_st {n : Nat} {I : MS → Nat → KL → Prop} (hP : EnP n I) (hQ : TwP n I) (S : S3) (t : Nat) (hJ : JS I S) (h1 : 1 ≤ t) (h2 : t ≤ n) : JS I (twS n S t) ∧ PhK (twS n S t).1 (twS n S t).2.1 ≤ PhK S.1 S.2.1 := by
  obtain ⟨K, F, L⟩ := S
  have hJ1 : I K F L := hJ.1
  have hJ2 : lsL K 13 = [] := hJ.2
  have hC := ((hP.1 L).1 F).1 K hJ1
  unfold twS
  by_cases hc : isWK K t = true ∧ K 16 t = nI 2 ∧ K 25 t = K 2 0
  · rw [if_pos hc]
    obtain ⟨q1, q2, q3, q4, -, q5, q6⟩ := hQ K F L t hJ1 hJ2 h1 h2 hc.1 hc.2.1 hc.2.2
    have hle := tw_le (n := n) hC.2.2.2.1 (by have := hC.1; omega) h2 q1 q2
    have hle : PhK (twK K F t) (twN K F t) ≤ PhK K F := by omega
    by_cases he : nI 5 ≤ twK K F t 16 t
    · rw [if_pos he]
      obtain ⟨p1, p2⟩ := q5 he
      obtain ⟨a1, a2⟩ := con_J hP (L := twL K L t) ⟨h1, h2⟩ p1 p2
      exact ⟨a1, Nat.le_trans a2 hle⟩
    · rw [if_neg he]
      exact ⟨⟨q6 he, q4⟩, hle⟩
  · rw [if_neg hc]; exact ⟨hJ, Nat.le_refl _⟩
/-- what is left behind is no more than what the step leaves -/
theorem tw_E {n : Nat} {I : MS → Nat → KL → Prop} (hP : EnP n I) {E S : S3} {K2 : MS} {F2 q t : Nat} {L2 : KL} {f : S3 → Nat → S3} {Z : S3} (hEl : ∀ S : S3, JS I S → E = lpF f q (t + 1) S → PhK E.1 E.2.1 ≤ PhK S.1 S.2.1) (hs : E = lpF f q (t + 1) Z) (hst : JS I Z ∧ PhK Z.1 Z.2.1 ≤ PhK S.1 S.2.1) (es : Z = if nI 5 ≤ K2 16 t then conT n (K2, F2, L2) t else (K2, F2, L2)) (ht : 1 ≤ t ∧ t ≤ n) (p1 : nI 5 ≤ K2 16 t → PeOk n K2 t) (p2 : nI 5 ≤ K2 16 t → I (nteK K2 t) F2 L2) : PhK E.1 E.2.1 ≤ PhK K2 F2 := by
  have g := hEl Z hst.1 hs
  by_cases he : nI 5 ≤ K2 16 t
  · rw [if_pos he] at es
    rw [es] at g
    exact Nat.le_trans g (con_J hP (L := L2) ht (p1 he) (p2 he)).2
  · rw [if_neg he] at es
    rw [es] at g
    exact g
set_option maxHeartbeats 4000000 in
theorem k_treatWorksOver (d : Nat) (G : GH) (A : AS) (n F : Nat) (K : MS) (L : KL) (I : MS → Nat → KL → Prop) (hP : EnP n I) (hQ : TwP n I) (hR : KR Y G A n F K L) (hJ : JS I (K, F, L)) (E : S3) (hE : E = lpF (twS n) n 1 (K, F, L)) : Cd l yX8_treatWorksOver cX8_treatWorksOver 4 none (d + 10) (PhK K F - PhK E.1 E.2.1) (PhK K F - PhK E.1 E.2.1) Y [.inr (.inr (some (A 0 0)))] G (fun r G' => r = none ∧ ∃ A', KR Y G' A' n E.2.1 E.1 E.2.2 ∧ AK A A') := by
  refine Ct.of (ini := False) (by decide +kernel) False.elim rfl (Nat.le_of_ble_eq_true rfl) ?_
  intro p e s m args below meth c C X
  generalize hT : PhK K F = T at *
  have lp : ∀ (q j : Nat) (G1 : GH) (A1 : AS) (K1 : MS) (F1 : Nat) (L1 : KL) , j + q = n → KR Y G1 A1 n F1 K1 L1 → AK A A1 → JS I (K1, F1, L1) → PhK K1 F1 ≤ T → E = lpF (twS n) q (j + 1) (K1, F1, L1) → V p l e (RM (d + 10) (T - PhK E.1 E.2.1) (T - PhK E.1 E.2.1)) s m args below meth c Y (GA G s.heap.size) (QM below args s (RM (d + 10) (T - PhK E.1 E.2.1) (T - PhK E.1 E.2.1)) Y G (fun r G' => r = none ∧ ∃ A', KR Y G' A' n E.2.1 E.1 E.2.2 ∧ AK A A')) 2 G1 (T - PhK K1 F1) (T - PhK K1 F1) [some (.inr (.inr (some (A1 0 0)))), some (.inl (nI j)), none, none] [] := by
    intro q
    induction q with
    | zero =>
      intro j G1 A1 K1 F1 L1  hj R1 hA h1 hph hs
      rw [lpF] at hs
      obtain ⟨hn2, hmd, -⟩ := ((hP.1 L1).1 F1).1 K1 h1.1
      have e0K : K1 0 0 = nI n := hmd.1
      refine b_X8_treatWorksOver_2.go C ⟨_, R1.mn, fun _ => ⟨trivial, ?_⟩, fun h => absurd (show K1 0 0 ≤ nI j by rw [e0K]; exact nI_le (by omega) (by omega)) h⟩
      have e1 : E.1 = K1 := by rw [hs]
      have e2 : E.2.1 = F1 := by rw [hs]
      have e3 : E.2.2 = L1 := by rw [hs]
      rw [e1, e2, e3]
      exact V_vret C X d_X8_treatWorksOver_86 (Nat.le_refl _) (Nat.le_refl _) ⟨rfl, A1, R1, hA⟩
    | succ q ih =>
      intro j G1 A1 K1 F1 L1  hj R1 hA h1 hph hs
      rw [lpF] at hs
      have hst := tw_st hP hQ (K1, F1, L1) (j + 1) h1 (by omega) (by omega)
      have hC1 := ((hP.1 L1).1 F1).1 K1 h1.1
      have hC2 := hC1
      obtain ⟨hn2, hmd, ⟨e1, he1, he12, he13⟩, hjr, hL1, hT1⟩ := hC1
      have e0K : K1 0 0 = nI n := hmd.1
      have e5K : K1 5 j = nI (j + 1) := hmd.2.2.2 j (by omega)
      have ht : 1 ≤ j + 1 ∧ j + 1 ≤ n := ⟨by omega, by omega⟩
      have nx : ∀ (K2 : MS) (F2 : Nat) (L2 : KL) (G3 : GH) (A3 : AS) (a b : Nat) (x2 x3 : Option AV), JS I (K2, F2, L2) → PhK K2 F2 ≤ PhK K1 F1 → E = lpF (twS n) q (j + 1 + 1) (K2, F2, L2) → KR Y G3 A3 n F2 K2 L2 → AK A A3 → a ≤ T - PhK K2 F2 → b ≤ T - PhK K2 F2 → V p l e (RM (d + 10) (T - PhK E.1 E.2.1) (T - PhK E.1 E.2.1)) s m args below meth c Y (GA G s.heap.size) (QM below args s (RM (d + 10) (T - PhK E.1 E.2.1) (T - PhK E.1 E.2.1)) Y G (fun r G' => r = none ∧ ∃ A', KR Y G' A' n E.2.1 E.1 E.2.2 ∧ AK A A')) 80 G3 a b [some (.inr (.inr (some (A3 0 0)))), some (.inl (nI j)), x2, x3] [] := by
        intro K2 F2 L2 G3 A3 a b x2 x3 g1 g2 hs3 g3 g4 g8 g9
        refine V.widen g8 g9 ?_
        refine b_X8_treatWorksOver_80.go C ⟨_, nI_1 _, trivial, ?_⟩
        exact V.fg4 (ih (j + 1) G3 A3 K2 F2 L2  (by omega) g3 g4 g1 (Nat.le_trans g2 hph) hs3)
      have hEl : ∀ S : S3, JS I S → E = lpF (twS n) q (j + 1 + 1) S → PhK E.1 E.2.1 ≤ PhK S.1 S.2.1 := fun S g1 g2 => by
        rw [g2]; exact (lp_ok (n := n) (J := JS I) (tw_st hP hQ) q (j + 1 + 1) S g1 (by omega) (by omega)).2
      have sm0 : twS n (K1, F1, L1) (j + 1) = (K1, F1, L1) → PhK E.1 E.2.1 ≤ PhK K1 F1 ∧ ∀ (a b : Nat) (x2 x3 : Option AV), a ≤ T - PhK K1 F1 → b ≤ T - PhK K1 F1 → V p l e (RM (d + 10) (T - PhK E.1 E.2.1) (T - PhK E.1 E.2.1)) s m args below meth c Y (GA G s.heap.size) (QM below args s (RM (d + 10) (T - PhK E.1 E.2.1) (T - PhK E.1 E.2.1)) Y G (fun r G' => r = none ∧ ∃ A', KR Y G' A' n E.2.1 E.1 E.2.2 ∧ AK A A')) 80 G1 a b [some (.inr (.inr (some (A1 0 0)))), some (.inl (nI j)), x2, x3] [] := by
        intro es
        rw [es] at hs
        exact ⟨hEl (K1, F1, L1) h1 hs, fun a b x2 x3 ha hb => nx K1 F1 L1 G1 A1 a b x2 x3 h1 (Nat.le_refl _) hs R1 hA ha hb⟩
      have hE1 : PhK E.1 E.2.1 ≤ PhK K1 F1 := Nat.le_trans (hEl _ hst.1 hs) hst.2
      refine b_X8_treatWorksOver_2.go C ⟨_, R1.mn, fun h => absurd (show nI n ≤ nI j by rw [← e0K]; exact h) (fun z => by have := (nI_leI (by omega) (by omega)).mp z; omega), fun _ => ⟨trivial, ?_⟩⟩
      by_cases hw : isWK K1 (j + 1) = true
      rotate_left
      · have hw : isWK K1 (j + 1) = false := by simpa using hw
        have es := sm0 (by unfold twS; rw [if_neg (fun z => by rw [show isWK (K1, F1, L1).1 (j + 1) = false from hw] at z; exact absurd z.1 (by decide))])
        refine b_X8_treatWorksOver_10.go C ⟨_, R1.mn, _, _, R1.md, j, rfl, by omega, lb rfl, _, dec_n e5K (by omega) (by omega), nI 0, ⟨fun _ => ⟨trivial, ?_⟩, fun h => absurd nI_0 h⟩, Or.inr ⟨_, _, rfl, Or.inl ⟨R1.sg ht hw, by decide +kernel⟩⟩⟩
        exact es.2 _ _ _ _ (Nat.le_refl _) (Nat.le_refl _)
      refine b_X8_treatWorksOver_10.go C ⟨_, R1.mn, _, _, R1.md, j, rfl, by omega, lb rfl, _, dec_n e5K (by omega) (by omega), nI 1, ⟨fun h => absurd h (by decide +kernel), fun _ => ⟨trivial, ?_⟩⟩, Or.inr ⟨_, _, rfl, Or.inr ⟨R1.wk ht hw, by decide +kernel⟩⟩⟩
      refine b_X8_treatWorksOver_24.go C ⟨fun a9 h9 => by cases h9; exact ⟨_, _, R1.wk ht hw, by decide⟩, _, R1.wk ht hw, fun h24 => ⟨trivial, ?_⟩, fun h24 => ⟨trivial, ?_⟩⟩
      · have h24 : ¬ K1 16 (j + 1) = nI 2 := h24
        have es := sm0 (by unfold twS; rw [if_neg (fun z => h24 z.2.1)])
        exact es.2 _ _ _ _ (Nat.le_refl _) (Nat.le_refl _)
      have h24 : K1 16 (j + 1) = nI 2 := h24
      refine b_X8_treatWorksOver_37.go C ⟨_, R1.wk ht hw, _, R1.mn, fun h37 => ⟨trivial, ?_⟩, fun h37 => ⟨trivial, ?_⟩⟩
      · have h37 : ¬ K1 25 (j + 1) = K1 2 0 := h37
        have es := sm0 (by unfold twS; rw [if_neg (fun z => h37 z.2.2)])
        exact es.2 _ _ _ _ (Nat.le_refl _) (Nat.le_refl _)
      have h37 : K1 25 (j + 1) = K1 2 0 := h37
      obtain ⟨q1, q2, q3, q4, q7, q5, q6⟩ := hQ K1 F1 L1 (j + 1) h1.1 h1.2 ht.1 ht.2 hw h24 h37
      have hle := tw_le (n := n) hjr (by omega) ht.2 q1 q2
      have hw9 := hw
      have tl : ∀ (G2 : GH) (A2 : AS) (a b : Nat), KR Y G2 A2 n (twN K1 F1 (j + 1)) (twK K1 F1 (j + 1)) (twL K1 L1 (j + 1)) → AK A A2 → a ≤ T - PhK (twK K1 F1 (j + 1)) (twN K1 F1 (j + 1)) → b ≤ T - PhK (twK K1 F1 (j + 1)) (twN K1 F1 (j + 1)) → V p l e (RM (d + 10) (T - PhK E.1 E.2.1) (T - PhK E.1 E.2.1)) s m args below meth c Y (GA G s.heap.size) (QM below args s (RM (d + 10) (T - PhK E.1 E.2.1) (T - PhK E.1 E.2.1)) Y G (fun r G' => r = none ∧ ∃ A', KR Y G' A' n E.2.1 E.1 E.2.2 ∧ AK A A')) 68 G2 a b [some (.inr (.inr (some (A2 0 0)))), some (.inl (nI j)), some (.inr (.inr (some (A2 1 (j + 1))))), some (.inr (.inr (some (A2 1 (j + 1)))))] [] := by
        intro G2 A2 a b R2 hA2 ha hb
        have es : twS n (K1, F1, L1) (j + 1) = if nI 5 ≤ twK K1 F1 (j + 1) 16 (j + 1) then conT n (twK K1 F1 (j + 1), twN K1 F1 (j + 1), twL K1 L1 (j + 1)) (j + 1) else (twK K1 F1 (j + 1), twN K1 F1 (j + 1), twL K1 L1 (j + 1)) := by unfold twS; rw [if_pos ⟨hw, h24, h37⟩]
        have hle2 : PhK (twK K1 F1 (j + 1)) (twN K1 F1 (j + 1)) ≤ PhK K1 F1 := by omega
        generalize twK K1 F1 (j + 1) = K2 at *
        generalize twN K1 F1 (j + 1) = F2 at *
        generalize twL K1 L1 (j + 1) = L2 at *
        refine V.widen ha hb ?_
        have hEr : PhK E.1 E.2.1 ≤ PhK K2 F2 := by
          by_cases he : nI 5 ≤ K2 16 (j + 1)
          · rw [if_pos he] at es
            rw [es] at hs hst
            have g3 := hEl (conT n (K2, F2, L2) (j + 1)) hst.1 hs
            obtain ⟨p1, p2⟩ := q5 he
            exact Nat.le_trans g3 (con_J hP (L := L2) ht p1 p2).2
          · rw [if_neg he] at es
            rw [es] at hs hst
            exact hEl (K2, F2, L2) hst.1 hs
        refine b_X8_treatWorksOver_68.go C ⟨trivial, ?_⟩
        refine k_X8_treatWorksOver_69.go C X (c_hasEnded (d + 9) G2 (A2 1 (j + 1)) true _ _ (R2.wk ht q7)) (rest := []) rfl rfl rfl (fun _ => ⟨_, _, _, rfl, R2.wk ht q7, by decide⟩) (lb rfl) (Rq.of (by omega) (by decide) (by show _ ≤ T - PhK E.1 E.2.1; omega) (by show _ ≤ T - PhK E.1 E.2.1; omega)) ?_
        rintro r G9 ⟨h9, rfl⟩
        replace h9 := h9.symm
        subst h9
        refine b_X8_treatWorksOver_72.go C ⟨fun h72 => ⟨trivial, ?_⟩, fun h72 => ⟨trivial, ?_⟩⟩
        · have h72 : ¬ nI 5 ≤ K2 16 (j + 1) := wi_0 h72
          rw [if_neg h72] at es
          rw [es] at hs hst
          exact nx K2 F2 L2 G2 A2 _ _ _ _ hst.1 hle2 hs R2 hA2 (by omega) (by omega)
        · have h72 : nI 5 ≤ K2 16 (j + 1) := wi_1 h72
          rw [if_pos h72] at es
          obtain ⟨⟨p1, p2, p3, p4, e0, p5, p6⟩, hIp⟩ := q5 h72
          have hcl := (con_ok (hP.1 L2) (fun K F h => hP.2.1 K F L2 h) ht (by omega) p2 p3 p4 p5 p6 hIp).2
          rw [es] at hs hst
          obtain ⟨g1, g2⟩ := hst
          unfold conT at hs g1 g2
          generalize hZ : conS n (K2, F2) (j + 1) = Z at hcl hs g1 g2
          obtain ⟨KZ, FZ⟩ := Z
          have g3 := hEl (KZ, FZ, L2) g1 hs
          have g2 : PhK KZ FZ ≤ PhK K1 F1 := g2
          have g3 : PhK E.1 E.2.1 ≤ PhK KZ FZ := g3
          have hcl : PhK KZ FZ ≤ PhK K2 F2 := hcl
          refine b_X8_treatWorksOver_75.go C ⟨trivial, ?_⟩
          have kc := k_conclude (l := l) d G2 A2 n F2 K2 L2 (j + 1) e0 (fun K F => I K F L2) (hP.1 L2) R2 ht p1 p2 p3 p4 p5 p6 hIp
          rw [hZ] at kc
          have kc : Cd l yX8_conclude cX8_conclude 5 none (d + 9) (PhK K2 F2 - PhK KZ FZ) (PhK K2 F2 - PhK KZ FZ) Y [.inr (.inr (some (A2 0 0))), .inr (.inr (some (A2 1 (j + 1))))] G2 (fun r G' => r = none ∧ ∃ A', KR Y G' A' n FZ KZ L2 ∧ AK A2 A') := kc
          refine k_X8_treatWorksOver_77.go C X kc (rest := []) rfl rfl rfl (fun _ => ⟨_, _, _, rfl, R2.mn, by decide⟩) (lb rfl) (Rq.of (by omega) (by decide) (by show _ ≤ T - PhK E.1 E.2.1; omega) (by show _ ≤ T - PhK E.1 E.2.1; omega)) ?_
          rintro r G8 ⟨rfl, A4, R8, hA4⟩
          rw [← hA4.kt, ← hA4.sg (j + 1)]
          exact nx KZ FZ L2 G8 A4 _ _ _ _ g1 g2 hs R8 (hA2.tr hA4) (by omega) (by omega)
      refine b_X8_treatWorksOver_48.go C ⟨_, R1.wk ht hw, fun h48 => ⟨trivial, ?_⟩, fun h48 => ⟨trivial, ?_⟩⟩
      · have h48 : K1 28 (j + 1) = 0 := h48
        have e1 : twK K1 F1 (j + 1) = fnK K1 F1 (j + 1) := if_pos h48
        have e2 : twN K1 F1 (j + 1) = fnF K1 F1 (j + 1) := if_pos h48
        have e3 : twL K1 L1 (j + 1) = fnL K1 L1 (j + 1) := if_pos h48
        rw [if_pos h48, e1, e2] at hle
        rw [e1, e2, e3] at tl
        have hE3 : PhK E.1 E.2.1 ≤ PhK (fnK K1 F1 (j + 1)) (fnF K1 F1 (j + 1)) := by
          have es : twS n (K1, F1, L1) (j + 1) = if nI 5 ≤ twK K1 F1 (j + 1) 16 (j + 1) then conT n (twK K1 F1 (j + 1), twN K1 F1 (j + 1), twL K1 L1 (j + 1)) (j + 1) else (twK K1 F1 (j + 1), twN K1 F1 (j + 1), twL K1 L1 (j + 1)) := by unfold twS; rw [if_pos ⟨hw, h24, h37⟩]
          rw [e1, e2, e3] at es
          rw [e1, e2, e3] at q5
          exact tw_E hP hEl hs hst es ht (fun h => (q5 h).1) (fun h => (q5 h).2)
        refine b_X8_treatWorksOver_63.go C ⟨trivial, ?_⟩
        refine k_X8_treatWorksOver_65.go C X (k_finishWorking (d + 3) G1 A1 n F1 K1 L1 (j + 1) R1 ht hw (q2 h48) q1) (rest := []) rfl rfl rfl (fun _ => ⟨_, _, _, rfl, R1.mn, by decide⟩) (lb rfl) (Rq.of (by omega) (by decide) (by show _ ≤ T - PhK E.1 E.2.1; omega) (by show _ ≤ T - PhK E.1 E.2.1; omega)) ?_
        rintro r G9 ⟨rfl, A2, R9, hA2⟩
        rw [← hA2.kt, ← hA2.sg (j + 1)]
        exact tl G9 A2 _ _ R9 (hA.tr hA2) (by omega) (by omega)
      · have h48 : ¬ K1 28 (j + 1) = 0 := h48
        have e1 : twK K1 F1 (j + 1) = mtK K1 F1 (j + 1) := if_neg h48
        have e2 : twN K1 F1 (j + 1) = mtN K1 F1 (j + 1) := if_neg h48
        have e3 : twL K1 L1 (j + 1) = mtL K1 L1 (j + 1) := if_neg h48
        rw [if_neg h48, e1, e2] at hle
        rw [e1, e2, e3] at tl
        have hE3 : PhK E.1 E.2.1 ≤ PhK (mtK K1 F1 (j + 1)) (mtN K1 F1 (j + 1)) := by
          have es : twS n (K1, F1, L1) (j + 1) = if nI 5 ≤ twK K1 F1 (j + 1) 16 (j + 1) then conT n (twK K1 F1 (j + 1), twN K1 F1 (j + 1), twL K1 L1 (j + 1)) (j + 1) else (twK K1 F1 (j + 1), twN K1 F1 (j + 1), twL K1 L1 (j + 1)) := by unfold twS; rw [if_pos ⟨hw, h24, h37⟩]
          rw [e1, e2, e3] at es
          rw [e1, e2, e3] at q5
          exact tw_E hP hEl hs hst es ht (fun h => (q5 h).1) (fun h => (q5 h).2)
        obtain ⟨hk1, w, hw1, hw2⟩ := q3 h48
        have hin := (hT1 (j + 1) ht.1 ht.2).2.1
        refine b_X8_treatWorksOver_55.go C ⟨trivial, ?_⟩
        refine k_X8_treatWorksOver_57.go C X (k_meetInput (d + 6) G1 A1 n F1 K1 L1 (j + 1) w R1 ht hw hin hk1 hjr q1 hw2 hw1) (rest := []) rfl rfl rfl (fun _ => ⟨_, _, _, rfl, R1.mn, by decide⟩) (lb rfl) (Rq.of (by omega) (by decide) (by show _ ≤ T - PhK E.1 E.2.1; omega) (by show _ ≤ T - PhK E.1 E.2.1; omega)) ?_
        rintro r G9 ⟨rfl, A2, R9, hA2⟩
        rw [← hA2.kt, ← hA2.sg (j + 1)]
        refine b_X8_treatWorksOver_60.go C ⟨trivial, ?_⟩
        exact tl G9 A2 _ _ R9 (hA.tr hA2) (by omega) (by omega)
  refine b_X8_treatWorksOver_0.go C ⟨trivial, ?_⟩
  have := lp n 0 G A K F L  (by omega) hR (AK.rf A) hJ (by omega) hE
  rw [hT, Nat.sub_self] at this
  exact this
end CLS
