/-! the class: treatWorksOver, failLimitsDue, endPauses -/
section CLR
variable {l : Launch} {Y : YT}
theorem V.fg {p : Program} {l : Launch} {e : Env} {R : Room} {s : State} {m : MethodId} {args : Array Value} {below : List Frame} {meth : Method} {c : Code} {Y : YT} {A : Nat → Prop} {Q : State → Prop} {pc : Nat} {G : GH} {n k : Nat} {lc lc' : List (Option AV)} {st : List AV} (hl : lc'.length = lc.length) (hi : ∀ (i : Nat) (v : AV), lc[i]? = some (some v) → lc'[i]? = some (some v)) (h : V p l e R s m args below meth c Y A Q pc G n k lc st) : V p l e R s m args below meth c Y A Q pc G n k lc' st := fun L H locs ls h1 h2 h3 h4 h5 => h L H locs ls h1 h2 h3 h4 ⟨h5.1.trans hl, h5.2.1, fun i v hv => h5.2.2 i v (hi i v hv)⟩
theorem V.fg4 {p : Program} {l : Launch} {e : Env} {R : Room} {s : State} {m : MethodId} {args : Array Value} {below : List Frame} {meth : Method} {c : Code} {Y : YT} {A : Nat → Prop} {Q : State → Prop} {pc : Nat} {G : GH} {n k : Nat} {x0 x1 x2 x3 : Option AV} {st : List AV} (h : V p l e R s m args below meth c Y A Q pc G n k [x0, x1, none, none] st) : V p l e R s m args below meth c Y A Q pc G n k [x0, x1, x2, x3] st   := V.fg (lc := [x0, x1, none, none]) rfl (fun i v hv => match i, hv with | 0, hv => hv | 1, hv => hv | 2, hv => by cases hv | 3, hv => by cases hv | i + 4, hv => by cases hv) h
def epS (S : S3) (t : Nat) : S3 := if isWK S.1 t = true ∧ S.1 16 t = nI 4 ∧ S.1 25 t = S.1 2 0 then (rdyK S.1 t, S.2) else S
/-- what endPauses keeps -/
def EpP (n : Nat) (I : MS → Nat → KL → Prop) : Prop := ∀ K F L t, I K F L → 1 ≤ t → t ≤ n → isWK K t = true → K 16 t = nI 4 → I (rdyK K t) F L
theorem rdy_13 (K : MS) (t : Nat) : lsL (rdyK K t) 13 = lsL K 13 := by
  unfold rdyK
  rw [(oth_L (K := rdyA K t) (K' := addK (rdyA K t) 0 t) (n := 0) (i := t) (a := 0) (b := 13) (by decide) (by decide) (by decide) (fun f j h1 h2 => add_o h1 h2)).1]
  exact lsL_e (by decide) (rdyA_ls K t)
theorem ep_st {n : Nat} {I : MS → Nat → KL → Prop} (hP : EnP n I) (hE : EpP n I) (S : S3) (t : Nat) (hJ : JS I S) (h1 : 1 ≤ t) (h2 : t ≤ n) : JS I (epS S t) ∧ PhK (epS S t).1 (epS S t).2.1 ≤ PhK S.1 S.2.1 := by
  unfold epS
  by_cases hc : isWK S.1 t = true ∧ S.1 16 t = nI 4 ∧ S.1 25 t = S.1 2 0
  · rw [if_pos hc]
    obtain ⟨K, F, L⟩ := S
    have hC := ((hP.1 L).1 F).1 K hJ.1
    have L0 := hC.2.2.2.2.1 0 (by decide)
    have := PhK_rdy (F := F) (t := t) L0.1 (by have := hC.1; omega) (by omega) ⟨h1, h2⟩
    exact ⟨⟨hE K F L t hJ.1 h1 h2 hc.1 hc.2.1, (rdy_13 K t).trans hJ.2⟩, by show PhK (rdyK K t) F ≤ PhK K F; omega⟩
  · rw [if_neg hc]; exact ⟨hJ, Nat.le_refl _⟩
set_option maxHeartbeats 4000000 in
theorem k_endPauses (d : Nat) (G : GH) (A : AS) (n F : Nat) (K : MS) (L : KL) (I : MS → Nat → KL → Prop) (hP : EnP n I) (hQ : EpP n I) (hR : KR Y G A n F K L) (hJ : JS I (K, F, L)) (E : S3) (hE : E = lpF (epS) n 1 (K, F, L)) : Cd l yX8_endPauses cX8_endPauses 4 none (d + 8) (PhK K F - PhK E.1 E.2.1) (PhK K F - PhK E.1 E.2.1) Y [.inr (.inr (some (A 0 0)))] G (fun r G' => r = none ∧ ∃ A', KR Y G' A' n E.2.1 E.1 E.2.2 ∧ AK A A') := by
  refine Ct.of (ini := False) (by decide +kernel) False.elim rfl (Nat.le_of_ble_eq_true rfl) ?_
  intro p e s m args below meth c C X
  generalize hT : PhK K F = T at *
  have lp : ∀ (q j : Nat) (G1 : GH) (A1 : AS) (K1 : MS) (F1 : Nat) (L1 : KL) , j + q = n → KR Y G1 A1 n F1 K1 L1 → AK A A1 → JS I (K1, F1, L1) → PhK K1 F1 ≤ T → E = lpF (epS) q (j + 1) (K1, F1, L1) → V p l e (RM (d + 8) (T - PhK E.1 E.2.1) (T - PhK E.1 E.2.1)) s m args below meth c Y (GA G s.heap.size) (QM below args s (RM (d + 8) (T - PhK E.1 E.2.1) (T - PhK E.1 E.2.1)) Y G (fun r G' => r = none ∧ ∃ A', KR Y G' A' n E.2.1 E.1 E.2.2 ∧ AK A A')) 2 G1 (T - PhK K1 F1) (T - PhK K1 F1) [some (.inr (.inr (some (A1 0 0)))), some (.inl (nI j)), none, none] [] := by
    intro q
    induction q with
    | zero =>
      intro j G1 A1 K1 F1 L1  hj R1 hA h1 hph hs
      rw [lpF] at hs
      obtain ⟨hn2, hmd, -⟩ := ((hP.1 L1).1 F1).1 K1 h1.1
      have e0K : K1 0 0 = nI n := hmd.1
      refine b_X8_endPauses_2.go C ⟨_, R1.mn, fun _ => ⟨trivial, ?_⟩, fun h => absurd (show K1 0 0 ≤ nI j by rw [e0K]; exact nI_le (by omega) (by omega)) h⟩
      have e1 : E.1 = K1 := by rw [hs]
      have e2 : E.2.1 = F1 := by rw [hs]
      have e3 : E.2.2 = L1 := by rw [hs]
      rw [e1, e2, e3]
      exact V_vret C X d_X8_endPauses_59 (Nat.le_refl _) (Nat.le_refl _) ⟨rfl, A1, R1, hA⟩
    | succ q ih =>
      intro j G1 A1 K1 F1 L1  hj R1 hA h1 hph hs
      rw [lpF] at hs
      have hst := ep_st hP hQ (K1, F1, L1) (j + 1) h1 (by omega) (by omega)
      have hC1 := ((hP.1 L1).1 F1).1 K1 h1.1
      have hC2 := hC1
      obtain ⟨hn2, hmd, ⟨e1, he1, he12, he13⟩, hjr, hL1, hT1⟩ := hC1
      have e0K : K1 0 0 = nI n := hmd.1
      have e5K : K1 5 j = nI (j + 1) := hmd.2.2.2 j (by omega)
      have ht : 1 ≤ j + 1 ∧ j + 1 ≤ n := ⟨by omega, by omega⟩
      have nx : ∀ (K2 : MS) (F2 : Nat) (L2 : KL) (G3 : GH) (A3 : AS) (a b : Nat) (x2 x3 : Option AV), JS I (K2, F2, L2) → PhK K2 F2 ≤ PhK K1 F1 → E = lpF (epS) q (j + 1 + 1) (K2, F2, L2) → KR Y G3 A3 n F2 K2 L2 → AK A A3 → a ≤ T - PhK K2 F2 → b ≤ T - PhK K2 F2 → V p l e (RM (d + 8) (T - PhK E.1 E.2.1) (T - PhK E.1 E.2.1)) s m args below meth c Y (GA G s.heap.size) (QM below args s (RM (d + 8) (T - PhK E.1 E.2.1) (T - PhK E.1 E.2.1)) Y G (fun r G' => r = none ∧ ∃ A', KR Y G' A' n E.2.1 E.1 E.2.2 ∧ AK A A')) 53 G3 a b [some (.inr (.inr (some (A3 0 0)))), some (.inl (nI j)), x2, x3] [] := by
        intro K2 F2 L2 G3 A3 a b x2 x3 g1 g2 hs3 g3 g4 g8 g9
        refine V.widen g8 g9 ?_
        refine b_X8_endPauses_53.go C ⟨_, nI_1 _, trivial, ?_⟩
        exact V.fg4 (ih (j + 1) G3 A3 K2 F2 L2  (by omega) g3 g4 g1 (Nat.le_trans g2 hph) hs3)
      have hEl : ∀ S : S3, JS I S → E = lpF (epS) q (j + 1 + 1) S → PhK E.1 E.2.1 ≤ PhK S.1 S.2.1 := fun S g1 g2 => by
        rw [g2]; exact (lp_ok (n := n) (J := JS I) (ep_st hP hQ) q (j + 1 + 1) S g1 (by omega) (by omega)).2
      have sm0 : epS (K1, F1, L1) (j + 1) = (K1, F1, L1) → PhK E.1 E.2.1 ≤ PhK K1 F1 ∧ ∀ (a b : Nat) (x2 x3 : Option AV), a ≤ T - PhK K1 F1 → b ≤ T - PhK K1 F1 → V p l e (RM (d + 8) (T - PhK E.1 E.2.1) (T - PhK E.1 E.2.1)) s m args below meth c Y (GA G s.heap.size) (QM below args s (RM (d + 8) (T - PhK E.1 E.2.1) (T - PhK E.1 E.2.1)) Y G (fun r G' => r = none ∧ ∃ A', KR Y G' A' n E.2.1 E.1 E.2.2 ∧ AK A A')) 53 G1 a b [some (.inr (.inr (some (A1 0 0)))), some (.inl (nI j)), x2, x3] [] := by
        intro es
        rw [es] at hs
        exact ⟨hEl (K1, F1, L1) h1 hs, fun a b x2 x3 ha hb => nx K1 F1 L1 G1 A1 a b x2 x3 h1 (Nat.le_refl _) hs R1 hA ha hb⟩
      have hE1 : PhK E.1 E.2.1 ≤ PhK K1 F1 := Nat.le_trans (hEl _ hst.1 hs) hst.2
      refine b_X8_endPauses_2.go C ⟨_, R1.mn, fun h => absurd (show nI n ≤ nI j by rw [← e0K]; exact h) (fun z => by have := (nI_leI (by omega) (by omega)).mp z; omega), fun _ => ⟨trivial, ?_⟩⟩
      by_cases hw : isWK K1 (j + 1) = true
      · refine b_X8_endPauses_10.go C ⟨_, R1.mn, _, _, R1.md, j, rfl, by omega, lb rfl, _, dec_n e5K (by omega) (by omega), nI 1, ⟨fun h => absurd h (by decide +kernel), fun _ => ⟨trivial, ?_⟩⟩, Or.inr ⟨_, _, rfl, Or.inr ⟨R1.wk ht hw, by decide +kernel⟩⟩⟩
        refine b_X8_endPauses_24.go C ⟨fun a9 h9 => by cases h9; exact ⟨_, _, R1.wk ht hw, by decide⟩, _, R1.wk ht hw, fun h24 => ⟨trivial, ?_⟩, fun h24 => ⟨trivial, ?_⟩⟩
        · have h24 : ¬ K1 16 (j + 1) = nI 4 := h24
          have es := sm0 (by unfold epS; rw [if_neg (fun z => h24 z.2.1)])
          exact es.2 _ _ _ _ (Nat.le_refl _) (Nat.le_refl _)
        have h24 : K1 16 (j + 1) = nI 4 := h24
        refine b_X8_endPauses_37.go C ⟨_, R1.wk ht hw, _, R1.mn, fun h37 => ⟨trivial, ?_⟩, fun h37 => ⟨trivial, ?_⟩⟩
        · have h37 : ¬ K1 25 (j + 1) = K1 2 0 := h37
          have es := sm0 (by unfold epS; rw [if_neg (fun z => h37 z.2.2)])
          exact es.2 _ _ _ _ (Nat.le_refl _) (Nat.le_refl _)
        have h37 : K1 25 (j + 1) = K1 2 0 := h37
        have es : epS (K1, F1, L1) (j + 1) = (rdyK K1 (j + 1), F1, L1) := by unfold epS; rw [if_pos ⟨hw, h24, h37⟩]
        rw [es] at hs hst
        obtain ⟨g1, g2⟩ := hst
        have g3 := hEl (rdyK K1 (j + 1), F1, L1) g1 hs
        have g3 : PhK E.1 E.2.1 ≤ PhK (rdyK K1 (j + 1)) F1 := g3
        have g2 : PhK (rdyK K1 (j + 1)) F1 ≤ PhK K1 F1 := g2
        have L0 := hL1 0 (by decide)
        have hcr := PhK_rdy (F := F1) (t := j + 1) L0.1 (by omega) (by omega) ht
        refine b_X8_endPauses_48.go C ⟨trivial, ?_⟩
        refine k_X8_endPauses_50.go C X (k_makeReady d G1 A1 n F1 K1 L1 (j + 1) R1 ht hw L0.1 (by omega)) (rest := []) rfl rfl rfl (fun _ => ⟨_, _, _, rfl, R1.mn, by decide⟩) (lb rfl) (Rq.of (by omega) (by decide) (by show _ ≤ T - PhK E.1 E.2.1; omega) (by show _ ≤ T - PhK E.1 E.2.1; omega)) ?_
        rintro r G9 ⟨rfl, A2, R9, hA2⟩
        rw [← hA2.kt, ← hA2.sg (j + 1)]
        exact nx (rdyK K1 (j + 1)) F1 L1 G9 A2 _ _ _ _ g1 g2 hs R9 (hA.tr hA2) (by omega) (by omega)
      · have hw : isWK K1 (j + 1) = false := by simpa using hw
        have es := sm0 (by unfold epS; rw [if_neg (fun z => by rw [show isWK (K1, F1, L1).1 (j + 1) = false from hw] at z; exact absurd z.1 (by decide))])
        refine b_X8_endPauses_10.go C ⟨_, R1.mn, _, _, R1.md, j, rfl, by omega, lb rfl, _, dec_n e5K (by omega) (by omega), nI 0, ⟨fun _ => ⟨trivial, ?_⟩, fun h => absurd nI_0 h⟩, Or.inr ⟨_, _, rfl, Or.inl ⟨R1.sg ht hw, by decide +kernel⟩⟩⟩
        exact es.2 _ _ _ _ (Nat.le_refl _) (Nat.le_refl _)
  refine b_X8_endPauses_0.go C ⟨trivial, ?_⟩
  have := lp n 0 G A K F L  (by omega) hR (AK.rf A) hJ (by omega) hE
  rw [hT, Nat.sub_self] at this
  exact this
def lmK0 (K : MS) (F t : Nat) : MS := failK (newFK K (F + 1) (nI 5) (K 10 t) 0 0 (fun _ => 0)) t (nI (F + 1))
def lmK (K : MS) (F t : Nat) : MS := addK (lmK0 K F t) 13 t
def lmS (n : Nat) (S : S3) (t : Nat) : S3 := if S.1 11 t = nI 12 ∧ S.1 14 t = S.1 2 0 ∧ ¬ nI 5 ≤ S.1 16 t then conT n (lmK S.1 S.2.1 t, S.2.1 + 1, S.2.2) t else S
def LmP (n : Nat) (I : MS → Nat → KL → Prop) : Prop := ∀ K F L t, I K F L → lsL K 13 = [] → 1 ≤ t → t ≤ n → K 11 t = nI 12 → ¬ nI 5 ≤ K 16 t → F + 1 ≤ 2000 ∧ I (nteK (lmK K F t) t) (F + 1) L
theorem lm0_o {K : MS} {F t f j : Nat} (h16 : f ≠ 16) (h18 : f ≠ 18) (h5 : ¬ (50 ≤ f ∧ f ≤ 58)) (hb : f < 10000) : lmK0 K F t f j = K f j := by
  unfold lmK0 failK
  rw [up2_f h18, up2_f h16, newFK_o (by omega) (by omega)]
theorem lm0_ls {K : MS} {F t : Nat} : ∀ f j, isLs f → lmK0 K F t f j = K f j := fun f j h => lm0_o (fun e => by subst e; unfold isLs at h; omega) (fun e => by subst e; unfold isLs at h; omega) (fun e => by unfold isLs at h; omega) (by unfold isLs at h; omega)
theorem lm_o {K : MS} {F t f j : Nat} (h16 : f ≠ 16) (h18 : f ≠ 18) (h5 : ¬ (50 ≤ f ∧ f ≤ 58)) (hb : f < 10000) (hl : ¬ isLs f) (h63 : f ≠ 63) : lmK K F t f j = K f j := by
  unfold isLs at hl
  unfold lmK
  rw [add_o (by omega) (by omega), lm0_o h16 h18 h5 hb]
theorem pe_lm {n F : Nat} {K : MS} {t : Nat} (hC : CF n F K) (h13 : lsL K 13 = []) (ht : 1 ≤ t ∧ t ≤ n) (hw : isWK K t = false) (ho : ¬ nI 5 ≤ K 16 t) : PeOk n (lmK K F t) t := by
  obtain ⟨hn, hmd, ⟨e0, he, he2, he3⟩, hjr, hL, hT⟩ := hC
  obtain ⟨t1, t2, t3, t4, t5⟩ := hT t ht.1 ht.2
  have n8 : ∀ f, f < 64 ∨ (67 < f ∧ f < 4000) → ¬ isLs f := fun f h q => by unfold isLs at q; omega
  have hL0 : LA (lmK0 K F t) n := hL.cg lm0_ls
  have e13 : lsL (lmK0 K F t) 13 = [] := (lsL_e (by decide) lm0_ls).trans h13
  refine ⟨inK_e (lm_o (by decide) (by decide) (by decide) (by decide) (n8 _ (by decide)) (by decide)) (funext (fun j => lm_o (by omega) (by omega) (by omega) (by omega) (n8 _ (by omega)) (by omega))) t2, jrOk_e (lm_o (by decide) (by decide) (by decide) (by decide) (n8 _ (by decide)) (by decide)) (lm_o (by decide) (by decide) (by decide) (by decide) (n8 _ (by decide)) (by decide)) hjr, hL0.add (by omega) (by decide) ht (by rw [e13]; simp) (by rw [e13]; simp), fun h => ?_, e0, (lm_o (by decide) (by decide) (by decide) (by decide) (n8 _ (by decide)) (by decide)).trans he, he3 t ht.1 ht.2 ho⟩
  rw [wk_e (fun j => lm_o (by decide) (by decide) (by decide) (by decide) (n8 _ (by decide)) (by decide)), hw] at h
  cases h
theorem lm_cost {K : MS} {n F t : Nat} (hL : LA K n) (hn : n ≤ 201) (ht : 1 ≤ t ∧ t ≤ n) (hF : F + 1 ≤ 2000) : acK K 13 + 40 + PhK (lmK K F t) (F + 1) ≤ PhK K F := by
  have e := lm0_ls (K := K) (F := F) (t := t)
  have L13 := hL 13 (by decide)
  have h1 := PhL_add (K := lmK0 K F t) (a := 13) (i := t) (by decide) (LOk_e (by decide) e L13.1) hn (by rw [lsL_e (by decide) e]; omega) ht
  rw [acK_e (by decide) e] at h1
  have h2 : 40 + PhK (lmK0 K F t) (F + 1) = PhK K F := by
    unfold lmK0 failK
    rw [PhK_up (by decide) (by decide) (nls (by decide)), PhK_up (by decide) (by decide) (nls (by decide)), PhK_newF hF]
  have h3 : PhK (lmK K F t) (F + 1) + PhL (lmK0 K F t) = PhK (lmK0 K F t) (F + 1) + PhL (addK (lmK0 K F t) 13 t) := by
    unfold PhK lmK
    rw [nN, add_o (by decide) (by decide), nN, add_o (by decide) (by decide)]
    show 64 * (200 - nN (lmK0 K F t) 3 0) + 40 * (2000 - (F + 1)) + PhL (addK (lmK0 K F t) 13 t) + 2 * (48000 - nN (lmK0 K F t) 81 0) + _ = _
    omega
  omega
theorem lim_nw {K : MS} {t : Nat} (h : K 11 t = nI 12) : isWK K t = false := decide_eq_false (fun z => by rw [h] at z; exact absurd z.2 (by decide +kernel))
theorem lm_st {n : Nat} {I : MS → Nat → KL → Prop} (hP : EnP n I) (hQ : LmP n I) (S : S3) (t : Nat) (hJ : JS I S) (h1 : 1 ≤ t) (h2 : t ≤ n) : JS I (lmS n S t) ∧ PhK (lmS n S t).1 (lmS n S t).2.1 ≤ PhK S.1 S.2.1 := by
  unfold lmS
  by_cases hc : S.1 11 t = nI 12 ∧ S.1 14 t = S.1 2 0 ∧ ¬ nI 5 ≤ S.1 16 t
  · rw [if_pos hc]
    obtain ⟨K, F, L⟩ := S
    have hC := ((hP.1 L).1 F).1 K hJ.1
    obtain ⟨hF, hI⟩ := hQ K F L t hJ.1 hJ.2 h1 h2 hc.1 hc.2.2
    obtain ⟨a1, a2⟩ := con_J hP (L := L) ⟨h1, h2⟩ (pe_lm hC hJ.2 ⟨h1, h2⟩ (lim_nw hc.1) hc.2.2) hI
    have := lm_cost (F := F) (t := t) hC.2.2.2.2.1 (by have := hC.1; omega) ⟨h1, h2⟩ hF
    refine ⟨a1, Nat.le_trans a2 ?_⟩
    show PhK (lmK K F t) (F + 1) ≤ PhK K F
    omega
  · rw [if_neg hc]; exact ⟨hJ, Nat.le_refl _⟩
set_option maxHeartbeats 4000000 in
theorem k_failLimitsDue (d : Nat) (G : GH) (A : AS) (n F : Nat) (K : MS) (L : KL) (I : MS → Nat → KL → Prop) (hP : EnP n I) (hQ : LmP n I) (hR : KR Y G A n F K L) (hJ : JS I (K, F, L)) (E : S3) (hE : E = lpF (lmS n) n 1 (K, F, L)) : Cd l yX8_failLimitsDue cX8_failLimitsDue 3 none (d + 10) (PhK K F - PhK E.1 E.2.1) (PhK K F - PhK E.1 E.2.1) Y [.inr (.inr (some (A 0 0)))] G (fun r G' => r = none ∧ ∃ A', KR Y G' A' n E.2.1 E.1 E.2.2 ∧ AK A A') := by
  refine Ct.of (ini := False) (by decide +kernel) False.elim rfl (Nat.le_of_ble_eq_true rfl) ?_
  intro p e s m args below meth c C X
  generalize hT : PhK K F = T at *
  have lp : ∀ (q j : Nat) (G1 : GH) (A1 : AS) (K1 : MS) (F1 : Nat) (L1 : KL) (o2 : Option AV), j + q = n → KR Y G1 A1 n F1 K1 L1 → AK A A1 → JS I (K1, F1, L1) → PhK K1 F1 ≤ T → E = lpF (lmS n) q (j + 1) (K1, F1, L1) → V p l e (RM (d + 10) (T - PhK E.1 E.2.1) (T - PhK E.1 E.2.1)) s m args below meth c Y (GA G s.heap.size) (QM below args s (RM (d + 10) (T - PhK E.1 E.2.1) (T - PhK E.1 E.2.1)) Y G (fun r G' => r = none ∧ ∃ A', KR Y G' A' n E.2.1 E.1 E.2.2 ∧ AK A A')) 2 G1 (T - PhK K1 F1) (T - PhK K1 F1) [some (.inr (.inr (some (A1 0 0)))), some (.inl (nI j)), o2] [] := by
    intro q
    induction q with
    | zero =>
      intro j G1 A1 K1 F1 L1 o2 hj R1 hA h1 hph hs
      rw [lpF] at hs
      obtain ⟨hn2, hmd, -⟩ := ((hP.1 L1).1 F1).1 K1 h1.1
      have e0K : K1 0 0 = nI n := hmd.1
      refine b_X8_failLimitsDue_2.go C ⟨_, R1.mn, fun _ => ⟨trivial, ?_⟩, fun h => absurd (show K1 0 0 ≤ nI j by rw [e0K]; exact nI_le (by omega) (by omega)) h⟩
      have e1 : E.1 = K1 := by rw [hs]
      have e2 : E.2.1 = F1 := by rw [hs]
      have e3 : E.2.2 = L1 := by rw [hs]
      rw [e1, e2, e3]
      exact V_vret C X d_X8_failLimitsDue_80 (Nat.le_refl _) (Nat.le_refl _) ⟨rfl, A1, R1, hA⟩
    | succ q ih =>
      intro j G1 A1 K1 F1 L1 o2 hj R1 hA h1 hph hs
      rw [lpF] at hs
      have hst := lm_st hP hQ (K1, F1, L1) (j + 1) h1 (by omega) (by omega)
      have hC1 := ((hP.1 L1).1 F1).1 K1 h1.1
      have hC2 := hC1
      obtain ⟨hn2, hmd, ⟨e1, he1, he12, he13⟩, hjr, hL1, hT1⟩ := hC1
      have e0K : K1 0 0 = nI n := hmd.1
      have e5K : K1 5 j = nI (j + 1) := hmd.2.2.2 j (by omega)
      have ht : 1 ≤ j + 1 ∧ j + 1 ≤ n := ⟨by omega, by omega⟩
      have nx : ∀ (K2 : MS) (F2 : Nat) (L2 : KL) (G3 : GH) (A3 : AS) (a b : Nat) (x2 : Option AV), JS I (K2, F2, L2) → PhK K2 F2 ≤ PhK K1 F1 → E = lpF (lmS n) q (j + 1 + 1) (K2, F2, L2) → KR Y G3 A3 n F2 K2 L2 → AK A A3 → a ≤ T - PhK K2 F2 → b ≤ T - PhK K2 F2 → V p l e (RM (d + 10) (T - PhK E.1 E.2.1) (T - PhK E.1 E.2.1)) s m args below meth c Y (GA G s.heap.size) (QM below args s (RM (d + 10) (T - PhK E.1 E.2.1) (T - PhK E.1 E.2.1)) Y G (fun r G' => r = none ∧ ∃ A', KR Y G' A' n E.2.1 E.1 E.2.2 ∧ AK A A')) 74 G3 a b [some (.inr (.inr (some (A3 0 0)))), some (.inl (nI j)), x2] [] := by
        intro K2 F2 L2 G3 A3 a b x2 g1 g2 hs3 g3 g4 g8 g9
        refine V.widen g8 g9 ?_
        refine b_X8_failLimitsDue_74.go C ⟨_, nI_1 _, trivial, ?_⟩
        exact ih (j + 1) G3 A3 K2 F2 L2 x2 (by omega) g3 g4 g1 (Nat.le_trans g2 hph) hs3
      have hEl : ∀ S : S3, JS I S → E = lpF (lmS n) q (j + 1 + 1) S → PhK E.1 E.2.1 ≤ PhK S.1 S.2.1 := fun S g1 g2 => by
        rw [g2]; exact (lp_ok (n := n) (J := JS I) (lm_st hP hQ) q (j + 1 + 1) S g1 (by omega) (by omega)).2
      have sm0 : lmS n (K1, F1, L1) (j + 1) = (K1, F1, L1) → PhK E.1 E.2.1 ≤ PhK K1 F1 ∧ ∀ (a b : Nat) (x2 : Option AV), a ≤ T - PhK K1 F1 → b ≤ T - PhK K1 F1 → V p l e (RM (d + 10) (T - PhK E.1 E.2.1) (T - PhK E.1 E.2.1)) s m args below meth c Y (GA G s.heap.size) (QM below args s (RM (d + 10) (T - PhK E.1 E.2.1) (T - PhK E.1 E.2.1)) Y G (fun r G' => r = none ∧ ∃ A', KR Y G' A' n E.2.1 E.1 E.2.2 ∧ AK A A')) 74 G1 a b [some (.inr (.inr (some (A1 0 0)))), some (.inl (nI j)), x2] [] := by
        intro es
        rw [es] at hs
        exact ⟨hEl (K1, F1, L1) h1 hs, fun a b x2 ha hb => nx K1 F1 L1 G1 A1 a b x2 h1 (Nat.le_refl _) hs R1 hA ha hb⟩
      have hE1 : PhK E.1 E.2.1 ≤ PhK K1 F1 := Nat.le_trans (hEl _ hst.1 hs) hst.2
      refine b_X8_failLimitsDue_2.go C ⟨_, R1.mn, fun h => absurd (show nI n ≤ nI j by rw [← e0K]; exact h) (fun z => by have := (nI_leI (by omega) (by omega)).mp z; omega), fun _ => ⟨trivial, ?_⟩⟩
      refine b_X8_failLimitsDue_10.go C ⟨_, R1.mn, _, _, R1.md, j, rfl, by omega, lb rfl, _, dec_n e5K (by omega) (by omega), _, _, R1.st ht, stC_ci _, fun h10 => ⟨trivial, ?_⟩, fun h10 => ⟨trivial, ?_⟩⟩
      · have h10 : ¬ K1 11 (j + 1) = nI 12 := h10
        have es := sm0 (by unfold lmS; rw [if_neg (fun z => h10 z.1)])
        exact es.2 _ _ _ (Nat.le_refl _) (Nat.le_refl _)
      have h10 : K1 11 (j + 1) = nI 12 := h10
      refine b_X8_failLimitsDue_26.go C ⟨_, _, R1.st ht, stC_ci _, _, R1.mn, fun h26 => ⟨trivial, ?_⟩, fun h26 => ⟨trivial, ?_⟩⟩
      · have h26 : ¬ K1 14 (j + 1) = K1 2 0 := h26
        have es := sm0 (by unfold lmS; rw [if_neg (fun z => h26 z.2.1)])
        exact es.2 _ _ _ (Nat.le_refl _) (Nat.le_refl _)
      have h26 : K1 14 (j + 1) = K1 2 0 := h26
      refine b_X8_failLimitsDue_37.go C ⟨trivial, ?_⟩
      refine k_X8_failLimitsDue_38.go C X (c_hasEnded (d + 9) G1 (A1 1 (j + 1)) _ _ _ (R1.st ht)) (rest := []) rfl rfl rfl (fun _ => ⟨_, _, _, rfl, R1.st ht, stC_in _⟩) (lb rfl) (Rq.of (by omega) (by decide) (by show _ ≤ T - PhK E.1 E.2.1; omega) (by show _ ≤ T - PhK E.1 E.2.1; omega)) ?_
      rintro r G9 ⟨h9, rfl⟩
      replace h9 := h9.symm
      subst h9
      refine b_X8_failLimitsDue_41.go C ⟨fun h41 => ⟨trivial, ?_⟩, fun h41 => ⟨trivial, ?_⟩⟩
      · have h41 : nI 5 ≤ K1 16 (j + 1) := wi_1 h41
        have es := sm0 (by unfold lmS; rw [if_neg (fun z => z.2.2 h41)])
        exact es.2 _ _ _ (by omega) (by omega)
      have h41 : ¬ nI 5 ≤ K1 16 (j + 1) := wi_0 h41
      have es : lmS n (K1, F1, L1) (j + 1) = conT n (lmK K1 F1 (j + 1), F1 + 1, L1) (j + 1) := by unfold lmS; rw [if_pos ⟨h10, h26, h41⟩]
      obtain ⟨hF, hIp⟩ := hQ K1 F1 L1 (j + 1) h1.1 h1.2 ht.1 ht.2 h10 h41
      have hpe := pe_lm hC2 h1.2 ht (lim_nw h10) h41
      obtain ⟨p1, p2, p3, p4, e0, p5, p6⟩ := hpe
      have hcl := (con_ok (hP.1 L1) (fun K F h => hP.2.1 K F L1 h) ht (by omega) p2 p3 p4 p5 p6 hIp).2
      have hlc := lm_cost (F := F1) (t := j + 1) hL1 (by omega) ht hF
      have L13 := hL1 13 (by decide)
      have eL := lm0_ls (K := K1) (F := F1) (t := j + 1)
      have eac : acK (lmK0 K1 F1 (j + 1)) 13 = acK K1 13 := acK_e (by decide) eL
      rw [es] at hs hst
      obtain ⟨g1, g2⟩ := hst
      have g3 := hEl _ g1 hs
      unfold conT at hs g1 g2 g3
      generalize hZ : conS n (lmK K1 F1 (j + 1), F1 + 1) (j + 1) = Z at hcl hs g1 g2 g3
      obtain ⟨KZ, FZ⟩ := Z
      have g2 : PhK KZ FZ ≤ PhK K1 F1 := g2
      have g3 : PhK E.1 E.2.1 ≤ PhK KZ FZ := g3
      have hcl : PhK KZ FZ ≤ PhK (lmK K1 F1 (j + 1)) (F1 + 1) := hcl
      refine b_X8_failLimitsDue_44.go C ⟨by show _ ≤ T - PhK E.1 E.2.1; omega, by show _ ≤ T - PhK E.1 E.2.1; omega, fun qf hqf => ?_⟩
      have R2 := R1.fresh hqf (fC 0 0 none none 0 0 0 0 none)
      refine ⟨_, _, R2.st ht, stC_ci _, trivial, ?_⟩
      refine k_X8_failLimitsDue_54.go C X (c_Failure2 (d + 7) _ qf (nI 5) (K1 10 (j + 1)) up_eq) (rest := [.inr (.inr (some qf)), .inr (.inr (some (A1 1 (j + 1))))]) rfl rfl rfl (fun _ => ⟨_, _, _, rfl, up_eq, by decide⟩) (lb rfl) (Rq.of (by omega) (by decide) (by show _ ≤ T - PhK E.1 E.2.1; omega) (by show _ ≤ T - PhK E.1 E.2.1; omega)) ?_
      rintro r G9 ⟨rfl, qs, hqs, rfl⟩
      have hne : qf ≠ qs := ne_none up_eq hqs
      have hqs' : G1 qs = none := (up_ne (Ne.symm hne)).symm.trans hqs
      rw [up_comm hne, bx_uu]
      obtain ⟨w0, σ0, ρ0, hst0, A2, hSP, hX⟩ := SP.fl (g := fun _ => none) (kd := nI 5) (ca := 0) (sup := fun _ => 0) (ns := 0) R1 ht hF hqs' hqf (Ne.symm hne) (Nat.zero_le _) (fun _ => Nat.zero_le _) (by omega) (fun _ => (dec_0 rfl).symm)
      rw [dec_0 rfl] at hst0 hSP
      refine k_X8_failLimitsDue_57.go C X (c_fail (d + 9) _ (A1 1 (j + 1)) w0 σ0 ρ0 (some qf) hst0) (rest := []) rfl rfl rfl (fun _ => ⟨_, _, _, rfl, hst0, stC_in _⟩) (lb rfl) (Rq.of (by omega) (by decide) (by show _ ≤ T - PhK E.1 E.2.1; omega) (by show _ ≤ T - PhK E.1 E.2.1; omega)) ?_
      rintro r G9 ⟨rfl, rfl⟩
      have hA2 := hX.ak
      have R3 : KR Y _ A2 n (F1 + 1) (lmK0 K1 F1 (j + 1)) L1 := hSP
      rw [← hA2.kt, ← hA2.sg (j + 1)]
      rw [← hA2.sg (j + 1)] at R3
      refine b_X8_failLimitsDue_60.go C ⟨_, R3.mn, trivial, ?_⟩
      refine k_X8_failLimitsDue_65.go C X (k_add (d + 3) _ A2 n (F1 + 1) (lmK0 K1 F1 (j + 1)) L1 13 (j + 1) R3 (by decide) (LOk_e (by decide) eL L13.1) (by rw [lsL_e (by decide) eL]; omega) ht) (rest := []) rfl rfl rfl (fun _ => ⟨_, _, _, rfl, R3.1 9 13 (show 13 ≤ 13 by omega), by decide⟩) (lb rfl) (Rq.of (by omega) (by decide) (by show _ ≤ T - PhK E.1 E.2.1; omega) (by show _ ≤ T - PhK E.1 E.2.1; omega)) ?_
      rintro r G7 ⟨rfl, A3, R4, hA3⟩
      have R4 : KR Y G7 A3 n (F1 + 1) (lmK K1 F1 (j + 1)) L1 := R4
      rw [← hA3.kt, ← hA3.sg (j + 1)]
      refine b_X8_failLimitsDue_68.go C ⟨trivial, ?_⟩
      have kc := k_conclude (l := l) d G7 A3 n (F1 + 1) (lmK K1 F1 (j + 1)) L1 (j + 1) e0 (fun K F => I K F L1) (hP.1 L1) R4 ht p1 p2 p3 p4 p5 p6 hIp
      rw [hZ] at kc
      have kc : Cd l yX8_conclude cX8_conclude 5 none (d + 9) (PhK (lmK K1 F1 (j + 1)) (F1 + 1) - PhK KZ FZ) (PhK (lmK K1 F1 (j + 1)) (F1 + 1) - PhK KZ FZ) Y [.inr (.inr (some (A3 0 0))), .inr (.inr (some (A3 1 (j + 1))))] G7 (fun r G' => r = none ∧ ∃ A', KR Y G' A' n FZ KZ L1 ∧ AK A3 A') := kc
      refine k_X8_failLimitsDue_71.go C X kc (rest := []) rfl rfl rfl (fun _ => ⟨_, _, _, rfl, R4.mn, by decide⟩) (lb rfl) (Rq.of (by omega) (by decide) (by show _ ≤ T - PhK E.1 E.2.1; omega) (by show _ ≤ T - PhK E.1 E.2.1; omega)) ?_
      rintro r G8 ⟨rfl, A4, R8, hA4⟩
      rw [← hA4.kt, ← hA4.sg (j + 1)]
      exact nx KZ FZ L1 G8 A4 _ _ _ g1 g2 hs R8 (((hA.tr hA2).tr hA3).tr hA4) (by omega) (by omega)
  refine b_X8_failLimitsDue_0.go C ⟨trivial, ?_⟩
  have := lp n 0 G A K F L none (by omega) hR (AK.rf A) hJ (by omega) hE
  rw [hT, Nat.sub_self] at this
  exact this
end CLR
