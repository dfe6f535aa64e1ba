/-! failure, on both sides -/
section FLSS
variable {n k F w x y d wn W : Nat} {K K0 K1 K' : MS} {L : KL} {M M1 M' : MS} {i : Int32}
theorem trS_o {o r g f : Nat} (hf : f < 57 ∨ 65 < f) : trS M o r g f = M f := by
  have e : trQ M o r g f = M f := by
    unfold trQ
    rw [tp_o (by omega)]
    unfold trV
    rw [up2_f (by omega), up2_f (by omega), up2_f (by omega), up2_f (by omega), up2_f (by omega), up2_f (by omega)]
  unfold trS
  split
  · exact e
  · rw [opn_o (by omega) (by omega) (by omega) (by omega)]; exact e
theorem trF_o {f : Nat} (hf : f < 57 ∨ 65 < f) : ∀ (q : Nat) (M : MS), trF q M f = M f
  | 0, _ => rfl
  | q + 1, M => by
    rw [trF]
    split
    · rfl
    · split
      · rw [trF_o hf q, trS_o hf]
      · rw [trF_o hf q, up2_f (by omega)]
theorem treA_E {f0 : Nat} (h0 : f0 < F) (hF : F < 2 ^ 31) : SK (treA M F (nI f0)) = [(f0, -4, nI 0)] ∧ (∀ g, g < F → treA M F (nI f0) 65 g = 0) ∧ nN (treA M F (nI f0)) 60 0 = 0 ∧ nN (treA M F (nI f0)) 64 0 = 1 ∧ ∀ f, f < 57 ∨ 65 < f → treA M F (nI f0) f = M f := by
  unfold treA
  have e64 : nN (up2 (up2 (clF F 0 M) 60 0 (nI 0)) 64 0 (nI 0)) 64 0 = 0 := by rw [nN_sn (by decide), vu_s]
  obtain ⟨s1, s2⟩ := SK_opn (M := up2 (up2 (clF F 0 M) 60 0 (nI 0)) 64 0 (nI 0)) (o := 0) (f := nI f0) (up := -4) (ro := nI 0) e64 (by decide)
  have s0 : SK (up2 (up2 (clF F 0 M) 60 0 (nI 0)) 64 0 (nI 0)) = [] := by unfold SK; rw [e64]; rfl
  refine ⟨by rw [s1, s0, nI_clamp (by omega)], fun g hg => ?_, ?_, s2, fun f hf => ?_⟩
  · rw [opn_o (by decide) (by decide) (by decide) (by decide), up2_f (by decide), up2_f (by decide)]
    exact clF_z F 0 M g (fun z => absurd z (Nat.not_lt_zero _)) (by omega)
  · rw [nN_e (opn_o (by decide) (by decide) (by decide) (by decide)), nN_f (by decide), nN_sn (by decide), vu_s]
  · rw [opn_o (by omega) (by omega) (by omega) (by omega), up2_f (by omega), up2_f (by omega), clF_o _ _ _ _ (by omega)]
theorem fl_start (hS : FS K M F) (hX : FX wn K F) (hw : wn < 100000) {f0 : Nat} (h0 : f0 < F) (i : Int32) : WO K M F (wn + 1) i (wtF i 1000000 (stdK (up2 K 4 0 (K 4 0 + nI 1)) (f0 + 1) (K 4 0 + nI 1) (nI 0) (nI 0) (nI 0)) (nI 1) (f0 + 1) (f0 + 1)) (treM 1000001 M F (nI f0)) := by
  have hF := hS.1
  have eW : K 4 0 + nI 1 = nI (wn + 1) := by rw [hX.1, nI_add]
  rw [eW]
  obtain ⟨t1, t2, t3, t4, t5⟩ := treA_E (M := M) h0 (show F < 2 ^ 31 by omega)
  unfold treM
  rw [trF_new (q := 1000000) t1 (t2 f0 h0), t3]
  have sc := hS.2 (f0 + 1) (by omega) (by omega)
  rw [show f0 + 1 - 1 = f0 by omega] at sc
  obtain ⟨m1, m2, ⟨m3, m4, m5, m6⟩, m7⟩ := trS_E (r := 0) t1 (by decide) (by rw [t4]; decide) (by rw [nN_e (t5 37 (by omega))]; exact sc.1.2)
  have oI : ∀ f, f ≠ 4 → ¬ (54 ≤ f ∧ f ≤ 58) → stdK (up2 K 4 0 (nI (wn + 1))) (f0 + 1) (nI (wn + 1)) (nI 0) (nI 0) (nI 0) f = K f := fun f h1 h2 => funext (fun j => by rw [std_o (by omega), up2_f h1])
  have jI : ∀ f p, f ≠ 4 → p ≠ f0 + 1 → stdK (up2 K 4 0 (nI (wn + 1))) (f0 + 1) (nI (wn + 1)) (nI 0) (nI 0) (nI 0) f p = K f p := fun f p h1 h2 => by rw [std_j h2, up2_f h1]
  have s4 : stdK (up2 K 4 0 (nI (wn + 1))) (f0 + 1) (nI (wn + 1)) (nI 0) (nI 0) (nI 0) 4 0 = nI (wn + 1) := by rw [std_o (by decide), up2_s]
  have s54 : stdK (up2 K 4 0 (nI (wn + 1))) (f0 + 1) (nI (wn + 1)) (nI 0) (nI 0) (nI 0) 54 (f0 + 1) = nI (wn + 1) := by unfold stdK; rw [up2_f (by decide), up2_f (by decide), up2_f (by decide), up2_f (by decide), up2_s]
  have s55 : stdK (up2 K 4 0 (nI (wn + 1))) (f0 + 1) (nI (wn + 1)) (nI 0) (nI 0) (nI 0) 55 (f0 + 1) = nI 0 := by unfold stdK; rw [up2_f (by decide), up2_f (by decide), up2_f (by decide), up2_s]
  have s58 : stdK (up2 K 4 0 (nI (wn + 1))) (f0 + 1) (nI (wn + 1)) (nI 0) (nI 0) (nI 0) 58 (f0 + 1) = nI 0 := by unfold stdK; rw [up2_f (by decide), up2_f (by decide), up2_s]
  have s56 : stdK (up2 K 4 0 (nI (wn + 1))) (f0 + 1) (nI (wn + 1)) (nI 0) (nI 0) (nI 0) 56 (f0 + 1) = nI 0 := by unfold stdK; rw [up2_f (by decide), up2_s]
  have s57 : stdK (up2 K 4 0 (nI (wn + 1))) (f0 + 1) (nI (wn + 1)) (nI 0) (nI 0) (nI 0) 57 (f0 + 1) = nI 0 := by unfold stdK; rw [up2_s]
  generalize stdK (up2 K 4 0 (nI (wn + 1))) (f0 + 1) (nI (wn + 1)) (nI 0) (nI 0) (nI 0) = KS at *
  have n57 : nN KS 57 (f0 + 1) = 0 := by unfold nN; rw [s57]; decide +kernel
  have n58 : nN KS 58 (f0 + 1) = 0 := by unfold nN; rw [s58]; decide +kernel
  have vis : ∀ f, 1 ≤ f → f ≤ F → KS 54 f = nI (wn + 1) → f = f0 + 1 := fun f h1 h2 h3 => Classical.byContradiction (fun c => by
    rw [jI 54 f (by decide) c] at h3
    obtain ⟨-, -, b, b1, b2⟩ := hX.2 f h1 h2
    rw [b2, nI_eq (by omega) (by omega)] at h3
    omega)
  refine wlk_sim hS 1000000 KS 1 (f0 + 1) (f0 + 1) [f0 + 1] _ 1000000 ⟨⟨oI, fun f hf => by rw [m1 f hf]; exact t5 f (Or.inl (by omega)), s4⟩, ⟨by simp, fun p hp => ?_⟩, fun g hg => ?_, ?_, ⟨m6, Nat.le_refl _, ⟨by omega, by omega⟩, s54, s55⟩, fun f h1 h2 h3 => ?_, fun p hp => by omega, fun f h1 h2 => ?_⟩ ⟨rfl, n58⟩ ?_ (Nat.le_refl _) (by decide)
  · have := List.mem_singleton.mp hp
    subst this
    exact ⟨⟨by omega, by omega⟩, s54, by rw [n57, s57], by rw [n57]; exact Nat.zero_le _⟩
  · rw [m2]
    by_cases cg : g = f0
    · subst cg
      rw [vu_s, s54]
      exact ⟨fun z => absurd z (by decide), fun z => absurd rfl z⟩
    · rw [vu_n cg]
      exact ⟨fun _ z => cg (by have := vis (g + 1) (by omega) (by omega) z; omega), fun _ => t2 g hg⟩
  · rw [m7]
    show _ = (remC KS (f0 + 1)).map (fun e => (e.1 - 1, KS 55 (f0 + 1), e.2)) ++ []
    rw [List.append_nil, List.append_nil]
    unfold remC
    rw [n57, if_pos rfl, nN_e (oI 52 (by decide) (by decide)), nN_e (oI 53 (by decide) (by decide)), nN_e (oI (10000 + (f0 + 1)) (by omega) (by omega)), s55, t5 35 (by omega), nN_e (t5 37 (by omega)), nN_e (t5 39 (by omega)), nN_e (t5 36 (by omega)), sc.1.1, List.map_append, List.map_map, show (0 : Nat) - 1 = 0 by decide, Nat.sub_zero, ← List.range_eq_range']
    congr 1
    · rcases sc.2.1 with z | ⟨h, h1, h2, h3⟩
      · rw [if_pos z.2, if_pos z.1]; rfl
      · rw [if_neg (show ¬ nN K 52 (f0 + 1) = 0 by omega), if_neg (by rw [h2]; exact nI_ne_m1 (by omega)), h2, h3, nI_clamp (by omega)]; rfl
    · refine List.map_congr_left (fun j hj => ?_)
      have hj' := List.mem_range.mp hj
      show _ = (nN K (10000 + (f0 + 1)) j - 1, nI 0, nI 2)
      rw [(sc.2.2 j hj').1]; rfl
  · have := vis f h1 h2 h3
    subst this
    refine ⟨⟨0, Nat.zero_le _, s58, Or.inl rfl⟩, 0, by decide, s55, by rw [m3, vu_s]; rfl, ?_, by rw [m5, vu_s, s56]⟩
    rw [m4, vu_s, s58, if_pos nI_0]
  · by_cases cf : f = f0 + 1
    · subst cf; exact ⟨wn + 1, Nat.le_refl _, s54⟩
    · rw [jI 54 f (by decide) cf]
      obtain ⟨-, -, b, b1, b2⟩ := hX.2 f h1 h2
      exact ⟨b, by omega, b2⟩
  · have u1 : uw KS F (wn + 1) ≤ 27 * F := sumN_cb (fun j hj => by
      have s := (hS.2 (j + 1) (by omega) (by omega)).1
      show (if KS 54 (j + 1) = nI (wn + 1) then 0 else nN KS 53 (j + 1) + 3) ≤ 27
      rw [nN_e (oI 53 (by decide) (by decide))]
      split
      · omega
      · omega)
    have p1 : pw KS [f0 + 1] ≤ 26 := by
      show nN KS 53 (f0 + 1) + 2 - nN KS 57 (f0 + 1) + 0 ≤ 26
      rw [nN_e (oI 53 (by decide) (by decide))]; omega
    omega
theorem Rel.kcg (hR : Rel n k F K L M) (hn : n ≤ 200) (o : ∀ f, f ≠ 4 → ¬ (54 ≤ f ∧ f ≤ 58) → K' f = K f) : Rel n k F K' L M ∧ ∀ a, a ≤ 13 → lsL K' a = lsL K a := by
  have els : ∀ f j, isLs f → K' f j = K f j := fun f j hf => by rw [o f (by unfold isLs at hf; omega) (by unfold isLs at hf; omega)]
  have N' : NT exK K' := fun f j hf => by
    have e : K' f = K f := o f (fun z => by subst z; cases hf) (fun z => by
      have : exK f = true := by unfold exK; exact decide_eq_true (by omega)
      rw [this] at hf; cases hf)
    unfold nN; rw [e]; exact hR.nt f j hf
  have ko : ∀ (p : Nat → Bool), (∀ f, p f = true → f ≠ 4 ∧ ¬ (54 ≤ f ∧ f ≤ 58)) → ∀ f, p f = true → K' f = K f := fun p hp f hf => o f (hp f hf).1 (hp f hf).2
  obtain ⟨r1, r2, r3, r4, r5, r6, r7, r8, r9, r10, r11, r12⟩ := hR
  exact ⟨⟨N', r2.cg els, r3.cg (ko _ (fun f hf => by have := of_decide_eq_true hf; omega)) (fun _ _ => rfl), r4.cg hn (ko _ (fun f hf => by have := of_decide_eq_true hf; omega)) (fun _ _ => rfl), r5.cg (ko _ (fun f hf => by have := of_decide_eq_true hf; omega)) (fun _ _ => rfl), r6.cg hn (ko _ (fun f hf => by have := of_decide_eq_true hf; omega)) (fun _ _ => rfl), r7.cg (ko _ (fun f hf => by have := of_decide_eq_true hf; omega)) (fun _ _ => rfl), r8.cg (fun c hc => lsL_e (by omega) els) (ko _ (fun f hf => by have := of_decide_eq_true hf; omega)) (fun _ _ => rfl), r9.cg (ko _ (fun f hf => by have := of_decide_eq_true hf; omega)) (fun _ _ => rfl), r10.cg (ko _ (fun f hf => by have := of_decide_eq_true hf; omega)) (fun _ _ => rfl), r11, r12⟩, fun a ha => lsL_e ha els⟩
theorem Inv.trp (hI : Inv n k w 0 0 M) (hF : nN M 38 0 = F) : TrP M F := by
  have bd := hI.bd (by decide) (by decide)
  obtain ⟨q1, q2, q3, q4⟩ := hI.f
  refine ⟨by omega, by rw [hI.nt 38 0 rfl, hF], fun g hg => ?_, ?_⟩
  · obtain ⟨p1, p2, p3, p4, p5⟩ := q1 g (by omega)
    refine ⟨hI.nt 37 g rfl, p3, hI.nt 36 g rfl, by omega, fun j hj => ⟨_, by have := p5 j hj; omega, hI.nt 39 _ rfl⟩, ?_⟩
    rcases p2 with z | ⟨h, h1, h2⟩
    · exact Or.inl z
    · exact Or.inr ⟨h, by omega, h2⟩
  · have e : sumN (fun g => nN M 37 g + 1) F = sumN (nN M 37) F + F := by
      have : ∀ m, sumN (fun g => nN M 37 g + 1) m = sumN (nN M 37) m + m := by
        intro m
        induction m with
        | zero => rfl
        | succ m ih => rw [sumN, sumN, ih]; omega
      exact this F
    rw [e, ← hF]
    omega
/-- the answer of failure -/
theorem flr_step (hS : Rst n k w F K L M) (hX : FX wn K F) (hw : wn < 100000) (v i z : Int32) :
    (¬ ((nI 1 ≤ v ∧ v ≤ K 0 0) ∧ (nI 0 ≤ z ∧ z ≤ nI 3)) → flrT M v z = nI 1) ∧
    ((nI 1 ≤ v ∧ v ≤ K 0 0) ∧ (nI 0 ≤ z ∧ z ≤ nI 3) → K 18 v.toNatClampNeg = 0 → flrT M v z = nI 2) ∧
    ((nI 1 ≤ v ∧ v ≤ K 0 0) ∧ (nI 0 ≤ z ∧ z ≤ nI 3) → ¬ K 18 v.toNatClampNeg = 0 → flrT M v z = nI 0 ∧ (1 ≤ nN K 18 v.toNatClampNeg ∧ nN K 18 v.toNatClampNeg ≤ F) ∧
      ∃ E, E = wtF i 1000000 (stdK (up2 K 4 0 (K 4 0 + nI 1)) (nN K 18 v.toNatClampNeg) (K 4 0 + nI 1) (nI 0) (nI 0) (nI 0)) (nI 1) (nN K 18 v.toNatClampNeg) (nN K 18 v.toNatClampNeg) ∧ (1 ≤ E.2 ∧ E.2 ≤ F) ∧
        (FW E.1 F → Rst n k w F E.1 L (flrM 1000001 M F v i z) ∧ FX (wn + 1) E.1 F) ∧
        ((E.1 55 E.2 = i ∧ flrM 1000001 M F v i z 54 0 = nI 0 ∧ flrC 1000001 M F v i z = if z = 0 then E.1 50 E.2 else if z = nI 1 then E.1 51 E.2 else if z = nI 2 then (if E.1 58 E.2 = 0 then -4 else E.1 55 (nN E.1 58 E.2)) else E.1 56 E.2) ∨ (¬ E.1 55 E.2 = i ∧ flrM 1000001 M F v i z 54 0 = nI 3))) := by
  obtain ⟨e0, e1, a1, e4, md, e2, em, hww⟩ := hS.n0
  have hR := hS.1
  have hI := hS.2.1
  rw [e0]
  refine ⟨fun h => ?_, fun h h18 => ?_, fun h h18 => ?_⟩
  · unfold flrT; rw [e1, if_neg h]
  · unfold flrT
    rw [e1, if_pos h, if_neg]
    obtain ⟨u, rfl, u1, u2⟩ := nI_btw (by decide) (by omega) h.1
    rw [nI_clamp (by omega)] at h18 ⊢
    rw [hI.nt.eq rfl (by decide)]
    exact (hR.k18z u1 u2).1.mp h18
  · obtain ⟨u, rfl, u1, u2⟩ := nI_btw (by decide) (by omega) h.1
    rw [nI_clamp (by omega)] at h18 ⊢
    have h8 : nN M 8 u = 2 := Classical.byContradiction (fun q => h18 ((hR.k18z u1 u2).1.mpr q))
    have m8 : M 8 u = nI 2 := (hI.nt.eq rfl (by decide)).mpr h8
    have f12 := hI.f12 u1 u2 h8
    have k18 := (hR.k18z u1 u2).2 h8
    have hF := hR.f.1
    have eT : flrT M (nI u) z = nI 0 := by unfold flrT; rw [e1, if_pos h, nI_clamp (by omega), if_pos m8]
    refine ⟨eT, by omega, _, rfl, ?_⟩
    have FS1 : FS K (up2 M 54 0 (nI 0)) F := by
      have q := hR.fs hI
      unfold FS at *
      rw [nN_f (by decide), nN_f (by decide), nN_f (by decide), up2_f (f := 35) (by decide)]
      exact q
    have WOo := fl_start FS1 hX hw (show nN M 12 u < F by omega) i
    rw [← k18, ← f12.2] at WOo
    have eA : flrA 1000001 M F (nI u) = treM 1000001 (up2 M 54 0 (nI 0)) F (M 12 u) := by unfold flrA; rw [nI_clamp (by omega)]
    rw [← eA] at WOo
    have oA : ∀ f, f < 54 ∨ f = 55 ∨ f = 56 ∨ 65 < f → flrA 1000001 M F (nI u) f = M f := fun f hf => by
      rw [eA, f12.2]
      unfold treM
      rw [trF_o (by omega), (treA_E (by omega) (by have := FS1.1; omega)).2.2.2.2 f (by omega), up2_f (by omega)]
    have o54 : flrA 1000001 M F (nI u) 54 0 = nI 0 := by
      rw [eA, f12.2]
      unfold treM
      rw [trF_o (by omega), (treA_E (by omega) (by have := FS1.1; omega)).2.2.2.2 54 (by omega), up2_s]
    generalize hA : flrA 1000001 M F (nI u) = MA at *
    generalize wtF i 1000000 (stdK (up2 K 4 0 (K 4 0 + nI 1)) (nN K 18 u) (K 4 0 + nI 1) (nI 0) (nI 0) (nI 0)) (nI 1) (nN K 18 u) (nN K 18 u) = E at *
    obtain ⟨w1, w2, w3, w4, r, r1, r2, r3, w5⟩ := WOo
    have eM : flrM 1000001 M F (nI u) i z = if flrB 1000001 M F (nI u) i = true then MA else up2 MA 54 0 (nI 3) := by
      unfold flrM; rw [eT, if_pos nI_0, hA]
    have eB : flrB 1000001 M F (nI u) i = true ↔ ∃ p, p < r ∧ i = nI p := by
      unfold flrB
      rw [hA, decide_eq_true_iff, r3, nI_subN r1]
      constructor
      · intro q
        obtain ⟨p, rfl, -, p2⟩ := nI_btw (by decide) (by omega) q
        exact ⟨p, by omega, rfl⟩
      · rintro ⟨p, p1, rfl⟩
        exact ⟨(nI_leI (by decide) (by omega)).mpr (Nat.zero_le _), (nI_leI (by omega) (by omega)).mpr (by omega)⟩
    refine ⟨w3, fun hfw => ?_, ?_⟩
    · have oM : ∀ f, f < 54 ∨ f = 55 ∨ f = 56 ∨ 65 < f → flrM 1000001 M F (nI u) i z f = M f := fun f hf => by
        rw [eM]
        split
        · exact oA f hf
        · rw [up2_f (by omega)]; exact oA f hf
      have z54 : ∀ j, j ≠ 0 → MA 54 j = M 54 j := fun j hj => by
        rw [eA, f12.2]
        unfold treM
        rw [trF_o (by omega), (treA_E (by omega) (by have := FS1.1; omega)).2.2.2.2 54 (by omega), up2_n (by omega)]
      have NM : NT exM (flrM 1000001 M F (nI u) i z) := fun f j hf => by
        by_cases c : f < 54 ∨ f = 55 ∨ f = 56 ∨ 65 < f
        · unfold nN; rw [oM f c]; exact hI.nt f j hf
        · by_cases c54 : f = 54
          · subst c54
            have NA : ∀ j, MA 54 j = nI (nN MA 54 j) := fun j => by
              unfold nN
              by_cases hj : j = 0
              · subst hj; rw [o54]; exact nI_cl (by decide)
              · rw [z54 j hj]; exact hI.nt 54 j rfl
            rw [eM]
            split
            · exact NA j
            · by_cases hj : j = 0
              · subst hj; rw [nN_sn (by decide), vu_s, up2_s]
              · rw [nN_sn (by decide), vu_n hj, up2_n (by omega)]; exact NA j
          · have : f = 57 ∨ f = 58 ∨ f = 59 ∨ f = 60 ∨ f = 61 ∨ f = 62 ∨ f = 63 ∨ f = 64 ∨ f = 65 := by omega
            rcases this with rfl | rfl | rfl | rfl | rfl | rfl | rfl | rfl | rfl <;> cases hf
      have S1 := hS.cg NM (fun f hf => oM f (by omega))
      obtain ⟨r1', l1⟩ := S1.1.kcg a1 w1
      refine ⟨⟨r1', S1.2.1, S1.2.2.1, by rw [l1 13 (by decide)]; exact S1.2.2.2.1, S1.2.2.2.2.1, fun t t1 t2 => (S1.2.2.2.2.2 t t1 t2).nw S1.1 S1.2.1 t1 t2 (fun f q h1 h2 _ _ => by rw [w1 f (by omega) (by omega)]) (w1 _ (by omega) (by omega)) (w1 50 (by decide) (by decide))⟩, w2, fun f h1 h2 => ?_⟩
      obtain ⟨g1, -, -, g2, -⟩ := hfw f h1 h2
      exact ⟨g1, g2, w4 f h1 h2⟩
    · rcases w5 with ⟨c, p, p1, p2, p3, p4, p5⟩ | ⟨c, p1⟩
      · left
        have hB := eB.mpr ⟨p, p1, p2⟩
        refine ⟨c, by rw [eM, if_pos hB]; exact o54, ?_⟩
        unfold flrC
        rw [eT, if_pos nI_0, if_pos hB, hA, p2, nI_clamp (by omega), p4, p5]
        have g := hR.f.2 (E.2 - 1) (by omega)
        rw [show E.2 - 1 + 1 = E.2 by omega] at g
        have n57 : nN MA 57 p = E.2 - 1 := nN_of p3 (by have := FS1.1; omega)
        rw [n57, w1 50 (by decide) (by decide), w1 51 (by decide) (by decide), hR.nt 50 _ rfl, hR.nt 51 _ rfl, g.1, g.2.1, ← hI.nt 33 _ rfl, ← hI.nt 34 _ rfl]
      · right
        have hB : ¬ flrB 1000001 M F (nI u) i = true := fun q => by
          obtain ⟨p, q1, q2⟩ := eB.mp q
          exact p1 p q1 q2.symm
        exact ⟨c, by rw [eM, if_neg hB, up2_s]⟩
/-- the answer of answer -/
theorem ans_step (hS : Rst n k w F K L M) (v : Int32) : Rst n k w F K L (up2 M 54 0 (ansT M v)) ∧
    (¬ (nI 1 ≤ v ∧ v ≤ K 0 0) → ansT M v = nI 1) ∧ ((nI 1 ≤ v ∧ v ≤ K 0 0) → ¬ K 16 v.toNatClampNeg = nI 5 → ansT M v = nI 2) ∧ ((nI 1 ≤ v ∧ v ≤ K 0 0) → K 16 v.toNatClampNeg = nI 5 → ansT M v = nI 0 ∧ ansM M v = K 17 v.toNatClampNeg) := by
  obtain ⟨e0, e1, a1, e4, md, e2, em, hww⟩ := hS.n0
  have hR := hS.1
  have hI := hS.2.1
  have nT : ansT M v = nI (ansT M v).toNatClampNeg := by
    unfold ansT
    split
    · split
      · exact nI_cl (by decide)
      · exact nI_cl (by decide)
    · exact nI_cl (by decide)
  refine ⟨hS.cg (hI.nt.up (fun _ => nT)) (fun f hf => up2_f (by omega)), fun h => ?_, fun h h16 => ?_, fun h h16 => ?_⟩
  · rw [e0] at h
    unfold ansT; rw [e1, if_neg h]
  · rw [e0] at h
    unfold ansT
    rw [e1, if_pos h, if_neg]
    obtain ⟨u, rfl, u1, u2⟩ := nI_btw (by decide) (by omega) h
    rw [nI_clamp (by omega)] at h16 ⊢
    exact fun q => h16 (((hR.k16 hI u1 u2).2.2 1 (by decide) (by decide)).mpr ((hI.nt.eq rfl (by decide)).mp q))
  · rw [e0] at h
    obtain ⟨u, rfl, u1, u2⟩ := nI_btw (by decide) (by omega) h
    rw [nI_clamp (by omega)] at h16 ⊢
    have m8 : M 8 u = nI 1 := (hI.nt.eq rfl (by decide)).mpr (((hR.k16 hI u1 u2).2.2 1 (by decide) (by decide)).mp h16)
    have eT : ansT M (nI u) = nI 0 := by unfold ansT; rw [e1, if_pos h, nI_clamp (by omega), if_pos m8]
    refine ⟨eT, ?_⟩
    unfold ansM
    rw [eT, if_pos nI_0, nI_clamp (by omega), (hR.d u u1 u2).2.1]
end FLSS
