/-! value and failed -/
section MKRS
variable {n k F w x y d wn : Nat} {K K1 K2 K' : MS} {L L1 L' : KL} {M M1 M' : MS} {t h c b : Nat} {so kd v7 v18 v19 v20 v29 v30 v32 : Nat} {am : Int32} {ls : List Nat}
theorem nte_f (hh : isWK K t = true → nN K 31 t ≤ 12) {f : Nat} (hf : (10 ≤ f ∧ f < 19) ∨ (50 ≤ f ∧ f < 59) ∨ (1000 ≤ f ∧ f < 4000)) : nteK K t f = K f := funext (fun j => by
  rw [nteK_o hh (by omega) (by omega) (by omega) (by unfold isLs; omega)]
  unfold nteC
  rw [srvD_o _ _ _ _ _ _ (by omega)]
  unfold nteB
  rw [jrn_o (by omega) (by omega) (by omega)]
  unfold nteA
  rw [up2_f (by omega), up2_f (by omega), up2_f (by omega)])
/-- a stage that is over as soon as it is made -/
theorem open_end {r : Rs} (hP : Pre n k w wn F K L M) (hn : 1 ≤ n) (ho : nN M 8 n = 0) (hr : RsM n F M M' n r) (h11 : nN K 11 n = 0) (hK : kepK K2 n = resK K n F r) :
    Rst n k w (opnS n K2 (resF F r)).2 (opnS n K2 (resF F r)).1 L (folM n M' n) ∧ FX wn (opnS n K2 (resF F r)).1 (opnS n K2 (resF F r)).2 ∧ rlOk (kepK K2 n) n (resF F r) n ∧ (nI 5 ≤ oA K2 n (resF F r) 16 n → PeOk n (oA K2 n (resF F r)) n ∧ IKw n k w wn (nteK (oA K2 n (resF F r)) n) (oN K2 n (resF F r)) L) ∧ EndR M M' n := by
  obtain ⟨r1, r2, r3, r4, r5, r6⟩ := hP.end hn ho hr
  obtain ⟨hR, hI, hN, h13, h17, hQ, hX⟩ := hP
  have o : ∀ f j, f < 50 ∨ (58 < f ∧ f < 10000) → f ≠ 16 → f ≠ 17 → f ≠ 18 → resK K n F r f j = K f j := fun f j h1 h2 h3 h4 => res_o h2 h3 h4 (by omega) (by omega)
  have e11 : nN (resK K n F r) 11 n = 0 := by unfold nN; rw [o 11 n (by omega) (by decide) (by decide) (by decide)]; exact h11
  have er : rulR (resK K n F r) n = rsN := by unfold rulR; rw [e11]; rfl
  have eA : oA K2 n (resF F r) = resK K n F r := by unfold oA; rw [hK, er]; rfl
  have eN : oN K2 n (resF F r) = resF F r := by unfold oN; rw [hK, er]; rfl
  have eo : opnS n K2 (resF F r) = conS n (resK K n F r, resF F r) n := by unfold opnS; rw [eA, eN, if_pos r2]
  rw [eo, eA, eN]
  have z := res_sim hR hI (by decide) hn (Nat.le_refl _) ho hr (Or.inl (by rw [h13]; simp)) (by rw [h13]; simp)
  have R2 := z.2.2.2.1
  have I2 := AskR.inv (Or.inr (Or.inr r6)) hI hn (Nat.le_refl _) ho
  have bd := I2.bd (by decide) (by decide)
  have hF := R2.f.1
  have eW : isWK (resK K n F r) n = isWK K n := by unfold isWK; rw [o 11 n (by omega) (by decide) (by decide) (by decide)]
  have hh : isWK (resK K n F r) n = true → nN (resK K n F r) 31 n ≤ 12 := fun q => (r4.2.2.2.1 q).2
  have hw : isWK K n = false := by
    unfold isWK
    refine decide_eq_false (fun q => ?_)
    have := (hR.nt.le rfl (by decide)).mp q.1
    omega
  have f : ∀ g, (10 ≤ g ∧ g < 19) ∨ (50 ≤ g ∧ g < 59) ∨ (1000 ≤ g ∧ g < 4000) → nteK (resK K n F r) n g = resK K n F r g := fun g hg => nte_f hh hg
  have fn : ∀ g, (10 ≤ g ∧ g < 19) ∨ (50 ≤ g ∧ g < 59) ∨ (1000 ≤ g ∧ g < 4000) → nN (nteK (resK K n F r) n) g = nN (resK K n F r) g := fun g hg => nN_e (f g hg)
  have hw2 : isWK (nteK (resK K n F r) n) n = false := by
    unfold isWK at *
    rw [f 11 (by omega), o 11 n (by omega) (by decide) (by decide) (by decide)]; exact hw
  have rl := R2.rl I2 (by decide) (by decide) hn (Nat.le_refl _) hw2
  refine ⟨r1, r3, ?_, fun _ => ⟨r4, r5⟩, r6⟩
  rw [hK]
  obtain ⟨q1, q2, q3, q4, q5, q6, q7⟩ := rl
  unfold flK at q6
  rw [fn 11 (by omega), fn 13 (by omega), f 13 (by omega)] at q4
  rw [fn 11 (by omega), f 11 (by omega)] at q1
  rw [fn 18 (by omega), f 18 (by omega), fn 50 (by omega), f 50 (by omega)] at q6
  exact ⟨q1, by omega, fun q => by omega, q4, fun q => by omega, q6, q7⟩
theorem up2_cm {f g i j : Nat} {a b : Int32} (h : ¬ (f = g ∧ i = j)) : up2 (up2 K f i a) g j b = up2 (up2 K g j b) f i a := by
  funext p q
  by_cases h1 : p = g ∧ q = j
  · obtain ⟨rfl, rfl⟩ := h1
    rw [up2_s, up2_n (fun z => h ⟨z.1.symm, z.2.symm⟩), up2_s]
  · rw [up2_n h1]
    by_cases h2 : p = f ∧ q = i
    · obtain ⟨rfl, rfl⟩ := h2
      rw [up2_s, up2_s]
    · rw [up2_n h2, up2_n h2, up2_n h1]
theorem kep_nil {t : Nat} (h : nN K t 0 = nN K t 0) (h12 : nN K 12 t = 0) : kepK K t = up2 (up2 K 5 (t - 1) (nI t)) 0 0 (nI t) := by
  unfold kepK; rw [h12]; rfl
theorem kep_gain {t : Nat} {v : Int32} (h12 : nN K 12 t = 0) : kepK (gainK K t v) t = gainK (kepK K t) t v := by
  have h12' : nN (gainK K t v) 12 t = 0 := by unfold gainK; rw [nN_f (by decide), nN_f (by decide)]; exact h12
  rw [kep_nil rfl h12, kep_nil rfl h12']
  unfold gainK
  rw [up2_cm (f := 17) (g := 5) (by omega), up2_cm (f := 16) (g := 5) (by omega), up2_cm (f := 17) (g := 0) (by omega), up2_cm (f := 16) (g := 0) (by omega)]
theorem kep_res {t F : Nat} {kd ca : Int32} {ns : Nat} {sup : Nat → Int32} (ht : t < 1000) (h12 : nN K 12 t = 0) : kepK (resK K t F (rsF kd ca ns sup)) t = resK (kepK K t) t F (rsF kd ca ns sup) := by
  have h12' : nN (resK K t F (rsF kd ca ns sup)) 12 t = 0 := by unfold nN; rw [res_o (by decide) (by decide) (by decide) (by decide) (by decide)]; exact h12
  rw [kep_nil rfl h12, kep_nil rfl h12']
  show up2 (up2 (failK (newFK K (F + 1) kd (K 10 t) ca ns sup) t (nI (F + 1))) 5 (t - 1) (nI t)) 0 0 (nI t) = failK (newFK (up2 (up2 K 5 (t - 1) (nI t)) 0 0 (nI t)) (F + 1) kd (up2 (up2 K 5 (t - 1) (nI t)) 0 0 (nI t) 10 t) ca ns sup) t (nI (F + 1))
  rw [up2_f (f := 10) (by decide), up2_f (f := 10) (by decide)]
  unfold failK
  rw [up2_cm (f := 18) (g := 5) (by omega), up2_cm (f := 16) (g := 5) (by omega), up2_cm (f := 18) (g := 0) (by omega), up2_cm (f := 16) (g := 0) (by omega)]
  congr 2
  funext p q
  unfold newFK
  by_cases c1 : p = 10000 + (F + 1)
  · subst c1; rw [up2_n (by omega), up2_n (by omega), if_pos rfl, if_pos rfl]
  · rw [if_neg c1]
    by_cases c2 : q = F + 1 ∧ 50 ≤ p ∧ p ≤ 58
    · rw [up2_n (by omega), up2_n (by omega), if_neg c1, if_pos c2, if_pos c2]
    · rw [if_neg c2]
      by_cases c3 : p = 0 ∧ q = 0
      · obtain ⟨rfl, rfl⟩ := c3; rw [up2_s, up2_s]
      · rw [up2_n c3, up2_n c3]
        by_cases c4 : p = 5 ∧ q = t - 1
        · obtain ⟨rfl, rfl⟩ := c4; rw [up2_s, up2_s]
        · rw [up2_n c4, up2_n c4, if_neg c1, if_neg c2]
/-- a made stage with no inputs, not asked yet -/
theorem mk_pre (hS : Rst n k w F K L M) (hX : FX wn K F) (hn : n + 1 ≤ 200) : Pre (n + 1) k w wn F (kepK (mkK K (n + 1) (beg n (nI 0) (nI 0) (nI 0)) []) (n + 1)) (upLt L (n + 1) (hgN L (n + 1) [])) (madeM M n (nI 0) (nI 0) (nI 0)) ∧ nN (madeM M n (nI 0) (nI 0) (nI 0)) 8 (n + 1) = 0 ∧ nN (kepK (mkK K (n + 1) (beg n (nI 0) (nI 0) (nI 0)) []) (n + 1)) 11 (n + 1) = 0 ∧ nN (mkK K (n + 1) (beg n (nI 0) (nI 0) (nI 0)) []) 12 (n + 1) = 0 := by
  have hR := hS.1
  have hI := hS.2.1
  obtain ⟨f1, f2, f3, f4⟩ := hI.fr hn
  have E := (mk_E (n := n) (so := 0) (kd := 0) (am := nI 0) hI.nt hn f1 (by decide) (by decide)).nw
  have hls : ∀ s ∈ ([] : List Nat), 1 ≤ s ∧ s ≤ n := fun s hs => by cases hs
  have I1 := E.inv hI hn (by decide) (by decide) (by unfold shp; simp) hls (by simp) ⟨by omega, fun _ => by omega⟩ ⟨by omega, fun q => by omega, fun q => by omega⟩ (fun q => by omega) ⟨by omega, fun _ => f3⟩ (by omega) (fun q => by omega)
  obtain ⟨C, fx⟩ := nwk_beg (K := K) (ls := []) (form := 0) (kind := 0) (am := nI 0) hR hI hn hls (by simp) (by decide) (by decide) (by decide)
  have R1 := hR.new (L' := upLt L (n + 1) (hgN L (n + 1) [])) hI I1 hn E C (by unfold stt; rfl) (by rw [if_neg (by decide), if_neg (by decide)]) (fun q => by omega) (by rw [if_neg (fun z => by omega)]) (fun v hv => by rw [upLt_mk]; exact hv) (fun u v hu => upLt_B hu) (fun v hv => hgN_B hn hv) (fun a b => by omega)
  refine ⟨Pre.of hS (hX.ot fx) R1 I1 E C, by rw [nN_e (E.2.2.2.2 8 rfl)]; exact (hI.zz (n + 1) (Or.inr (by omega)) hn).1.2.2.1, C.2.2.2.2.1.2.1, ?_⟩
  unfold mkK nN
  rw [stg_s (by omega) (by decide) (by decide), if_pos rfl]
  decide +kernel
theorem val_step (hS : Rst n k w F K L M) (hX : FX wn K F) (v : Int32) : MkS n k w wn F K L True (valC n) (valM n M v) M (gainK (mkK K (n + 1) (beg n (nI 0) (nI 0) (nI 0)) []) (n + 1) v) F (upLt L (n + 1) (hgN L (n + 1) [])) ∧ (fulB n 1 = false → FP (n + 1) (valA n M v 3) (valA n M v 4) (IR (n + 1) k w 0 (valA n M v 3) (valA n M v 4)) ∧ markOk (madeM M n (nI 0) (nI 0) (nI 0)) (n + 1) ∧ JJ (IR (n + 1) k w 0 (valA n M v 3) (valA n M v 4)) (valA n M v)) := by
  obtain ⟨e0, e1, a1, e4, md, e2, em, hw⟩ := hS.n0
  have key : n < 200 → OpS n k w wn (gainK (mkK K (n + 1) (beg n (nI 0) (nI 0) (nI 0)) []) (n + 1) v) F (upLt L (n + 1) (hgN L (n + 1) [])) (folM (n + 1) (valA n M v) (n + 1)) ∧ FP (n + 1) (valA n M v 3) (valA n M v 4) (IR (n + 1) k w 0 (valA n M v 3) (valA n M v 4)) ∧ markOk (madeM M n (nI 0) (nI 0) (nI 0)) (n + 1) ∧ JJ (IR (n + 1) k w 0 (valA n M v 3) (valA n M v 4)) (valA n M v) := fun hn => by
    obtain ⟨P1, h8, h11, h12⟩ := mk_pre hS hX (show n + 1 ≤ 200 by omega)
    have hr : RsM (n + 1) F (madeM M n (nI 0) (nI 0) (nI 0)) (valA n M v) (n + 1) (rsV v) := Or.inr (Or.inl ⟨v, rfl, rfl⟩)
    obtain ⟨r1, r2, r3, r4, r5⟩ := open_end (K2 := gainK (mkK K (n + 1) (beg n (nI 0) (nI 0) (nI 0)) []) (n + 1) v) P1 (by omega) h8 hr h11 (kep_gain h12)
    have I1 := P1.2.1
    have I2 := AskR.inv (Or.inr (Or.inr r5)) I1 (by omega) (Nat.le_refl _) h8
    have ik : inK (gainK (mkK K (n + 1) (beg n (nI 0) (nI 0) (nI 0)) []) (n + 1) v) (n + 1) (n + 1) := by
      have h12' : nN (gainK (mkK K (n + 1) (beg n (nI 0) (nI 0) (nI 0)) []) (n + 1) v) 12 (n + 1) = 0 := by unfold gainK; rw [nN_f (by decide), nN_f (by decide)]; exact h12
      refine ⟨?_, by omega, fun j hj => by omega⟩
      rw [h12']
      unfold gainK mkK
      rw [up2_f (f := 12) (by decide), up2_f (f := 12) (by decide), stg_s (by omega) (by decide) (by decide), if_pos rfl]; rfl
    refine ⟨⟨⟨ik_En, ik, r3, r4, rfl, ?_⟩, r1, r2⟩, IR_FP (by omega), I1.mk (by decide) (by decide) (by omega) (Nat.le_refl _) h8, JJ_R.mpr ⟨I2, rfl, rfl, ?_, Nat.zero_le _⟩⟩
    · have q := r1.1
      show (opnS (n + 1) _ (resF F (rsV v))).1 10 (n + 1) = _
      rw [q.nt 10 _ rfl, (q.s (n + 1) (by omega) (Nat.le_refl _)).1]
    · rw [nN_e r5.fr.2.2.1, r5.e16, P1.2.2.2.2.1]; omega
  refine ⟨mk_step (B := true) ⟨fun _ => rfl, fun _ => trivial⟩ (by rw [if_pos rfl]; rfl) (by rw [if_pos rfl]; rfl) (fun _ hn => (key hn).1) hS, fun hf => (key (ful_lt hf)).2⟩
theorem fld_step (hS : Rst n k w F K L M) (hX : FX wn K F) (v : Int32) : MkS n k w wn F K L (nI 0 ≤ v ∧ v ≤ nI 15) (fldC n M v) (fldM n M v) M (resK (mkK K (n + 1) (beg n (nI 0) (nI 0) (nI 0)) []) (n + 1) F (rsF v 0 0 (fun _ => 0))) (F + 1) (upLt L (n + 1) (hgN L (n + 1) [])) ∧ (fldB M v = true → fulB n 1 = false → FP (n + 1) (fldA n M v 3) (fldA n M v 4) (IR (n + 1) k w 0 (fldA n M v 3) (fldA n M v 4)) ∧ markOk (newFM (madeM M n (nI 0) (nI 0) (nI 0)) (nN M 38 0) v (nI (n + 1)) (-1)) (n + 1) ∧ JJ (IR (n + 1) k w 0 (fldA n M v 3) (fldA n M v 4)) (fldA n M v) ∧ ∃ f, M 38 0 = nI f ∧ f < 2000) := by
  obtain ⟨e0, e1, a1, e4, md, e2, em, hw⟩ := hS.n0
  have hPB : (nI 0 ≤ v ∧ v ≤ nI 15) ↔ fldB M v = true := by unfold fldB; rw [decide_eq_true_iff]
  have key : (nI 0 ≤ v ∧ v ≤ nI 15) → n < 200 → OpS n k w wn (resK (mkK K (n + 1) (beg n (nI 0) (nI 0) (nI 0)) []) (n + 1) F (rsF v 0 0 (fun _ => 0))) (F + 1) (upLt L (n + 1) (hgN L (n + 1) [])) (folM (n + 1) (fldA n M v) (n + 1)) ∧ FP (n + 1) (fldA n M v 3) (fldA n M v 4) (IR (n + 1) k w 0 (fldA n M v 3) (fldA n M v 4)) ∧ markOk (newFM (madeM M n (nI 0) (nI 0) (nI 0)) (nN M 38 0) v (nI (n + 1)) (-1)) (n + 1) ∧ JJ (IR (n + 1) k w 0 (fldA n M v 3) (fldA n M v 4)) (fldA n M v) ∧ ∃ f, M 38 0 = nI f ∧ f < 2000 := fun hP hn => by
    obtain ⟨kd, rfl, -, k2⟩ := nI_btw (by decide) (by decide) hP
    obtain ⟨P1, h8, h11, h12⟩ := mk_pre hS hX (show n + 1 ≤ 200 by omega)
    have I1 := P1.2.1
    have bd := I1.bd (by decide) (by decide)
    have hF0 : nN M 38 0 = F := hS.1.f.1
    have hF1 : nN (madeM M n (nI 0) (nI 0) (nI 0)) 38 0 = F := P1.1.f.1
    have NF := nf_E (M := madeM M n (nI 0) (nI 0) (nI 0)) (kd := kd) (at' := n + 1) (ca := -1) I1.nt (by omega) (by omega) (by omega)
    rw [hF1] at NF
    have hr : RsM (n + 1) F (madeM M n (nI 0) (nI 0) (nI 0)) (fldA n M (nI kd)) (n + 1) (rsF (nI kd) 0 0 (fun _ => 0)) := by
      refine Or.inr (Or.inr (Or.inr ⟨_, kd, -1, [], NF, ?_, ?_, by omega, by decide, Or.inl rfl, fun o q => by cases q⟩))
      · unfold fldA; rw [hF0]
      · rw [sup0, show (-1 + nI 1 : Int32) = 0 by decide +kernel]; rfl
    obtain ⟨r1, r2, r3, r4, r5⟩ := open_end (K2 := resK (mkK K (n + 1) (beg n (nI 0) (nI 0) (nI 0)) []) (n + 1) F (rsF (nI kd) 0 0 (fun _ => 0))) P1 (by omega) h8 hr h11 (kep_res (by omega) h12)
    have I2 := AskR.inv (Or.inr (Or.inr r5)) I1 (by omega) (Nat.le_refl _) h8
    have IF := NF.inv I1 (by omega) (by decide) (Or.inl rfl) (fun o q => by cases q)
    have ik : inK (resK (mkK K (n + 1) (beg n (nI 0) (nI 0) (nI 0)) []) (n + 1) F (rsF (nI kd) 0 0 (fun _ => 0))) (n + 1) (n + 1) := by
      have h12' : nN (resK (mkK K (n + 1) (beg n (nI 0) (nI 0) (nI 0)) []) (n + 1) F (rsF (nI kd) 0 0 (fun _ => 0))) 12 (n + 1) = 0 := by unfold nN; rw [res_o (by decide) (by decide) (by decide) (by decide) (by decide)]; exact h12
      refine ⟨?_, by omega, fun j hj => by omega⟩
      rw [h12', res_o (by decide) (by decide) (by decide) (by decide) (by decide)]
      unfold mkK
      rw [stg_s (by omega) (by decide) (by decide), if_pos rfl]; rfl
    refine ⟨⟨⟨ik_En, ik, r3, r4, rfl, ?_⟩, r1, r2⟩, IR_FP (by omega), ?_, JJ_R.mpr ⟨I2, rfl, rfl, ?_, Nat.zero_le _⟩, nN M 38 0, hS.2.1.nt 38 0 rfl, by omega⟩
    · have q := r1.1
      show (opnS (n + 1) _ (resF F (rsF (nI kd) 0 0 (fun _ => 0)))).1 10 (n + 1) = _
      rw [q.nt 10 _ rfl, (q.s (n + 1) (by omega) (Nat.le_refl _)).1]
    · rw [hF0]
      exact IF.mk (by decide) (by decide) (by omega) (Nat.le_refl _) (by rw [nN_e (NF.2.2.2.2.2.2.2.2.2.2 8 rfl)]; exact h8)
    · rw [nN_e r5.fr.2.2.1, r5.e16, P1.2.2.2.2.1]; omega
  exact ⟨mk_step hPB rfl rfl (fun a b => (key a b).1) hS, fun a b => (key (hPB.mpr a) (ful_lt b)).2⟩
end MKRS
