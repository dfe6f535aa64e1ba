/-! the class: always -/
section CQ
variable {l : Launch} {Y : YT}
def alwP (K : MS) (v w x : Int32) : Prop := (nI 1 ≤ v ∧ v ≤ K 0 0) ∧ iwB w (nI 1) x = true
set_option maxHeartbeats 2000000 in
theorem k_always (d : Nat) (G : GH) (A : AS) (n F : Nat) (K : MS) (L : KL) (v w x y : Int32) (I : MS → Nat → KL → Prop) (E : MS × Nat) (P9 : Nat) (hR : KR Y G A n F K L) (hm : mdK K n n) (hrd : rd0 K n) (hP9 : alwP K v w x → n < 199 → P9 = PhK (owK (mkKw K (n + 1) (begW n (nI 4) w x y) [v.toNatClampNeg] 0) (n + 1)) F) (hO : alwP K v w x → n < 199 → mdK (owK (mkKw K (n + 1) (begW n (nI 4) w x y) [v.toNatClampNeg] 0) (n + 1)) (n + 1) (n + 1) ∧ OpOk (n + 1) (mkK (owK (mkKw K (n + 1) (begW n (nI 4) w x y) [v.toNatClampNeg] 0) (n + 1)) (n + 1 + 1) (beg (n + 1) (nI 11) (nI 0) (nI 0)) (in2 v.toNatClampNeg (n + 1))) F (upLt (upLt L (n + 1) (hgN L (n + 1) [v.toNatClampNeg])) (n + 1 + 1) (hgN (upLt L (n + 1) (hgN L (n + 1) [v.toNatClampNeg])) (n + 1 + 1) (in2 v.toNatClampNeg (n + 1)))) I E) : Cd l yX8_always cX8_always 7 (some .int) (d + 11) (160 + ((PhK K F - P9) + (P9 - PhK E.1 E.2))) (160 + ((PhK K F - P9) + (P9 - PhK E.1 E.2))) Y [.inr (.inr (some (A 0 0))), .inl v, .inl w, .inl x, .inl y] G (fun r G' => (¬ alwP K v w x ∧ r = some (.inl (-1)) ∧ KR Y G' A n F K L) ∨ (alwP K v w x ∧ 199 ≤ n ∧ r = some (.inl (-2)) ∧ KR Y G' A n F K L) ∨ (alwP K v w x ∧ n < 199 ∧ r = some (.inl (nI (n + 2))) ∧ ∃ A', KR Y G' A' (n + 2) E.2 E.1 (upLt (upLt L (n + 1) (hgN L (n + 1) [v.toNatClampNeg])) (n + 1 + 1) (hgN (upLt L (n + 1) (hgN L (n + 1) [v.toNatClampNeg])) (n + 1 + 1) (in2 v.toNatClampNeg (n + 1)))) ∧ A' 0 0 = A 0 0)) := by
  refine Ct.of (ini := False) (by decide +kernel) False.elim rfl (Nat.le_of_ble_eq_true rfl) ?_
  intro p e s m args below meth c C X
  have no : ¬ alwP K v w x → ∀ (x0 x1 : Option AV), V p l e (RM (d + 11) (160 + ((PhK K F - P9) + (P9 - PhK E.1 E.2))) (160 + ((PhK K F - P9) + (P9 - PhK E.1 E.2)))) s m args below meth c Y (GA G s.heap.size) (QM below args s (RM (d + 11) (160 + ((PhK K F - P9) + (P9 - PhK E.1 E.2))) (160 + ((PhK K F - P9) + (P9 - PhK E.1 E.2)))) Y G (fun r G' => (¬ alwP K v w x ∧ r = some (.inl (-1)) ∧ KR Y G' A n F K L) ∨ (alwP K v w x ∧ 199 ≤ n ∧ r = some (.inl (-2)) ∧ KR Y G' A n F K L) ∨ (alwP K v w x ∧ n < 199 ∧ r = some (.inl (nI (n + 2))) ∧ ∃ A', KR Y G' A' (n + 2) E.2 E.1 (upLt (upLt L (n + 1) (hgN L (n + 1) [v.toNatClampNeg])) (n + 1 + 1) (hgN (upLt L (n + 1) (hgN L (n + 1) [v.toNatClampNeg])) (n + 1 + 1) (in2 v.toNatClampNeg (n + 1)))) ∧ A' 0 0 = A 0 0))) 21 G 0 0 [some (.inr (.inr (some (A 0 0)))), some (.inl v), some (.inl w), some (.inl x), some (.inl y), x0, x1] [] := by
    intro h x0 x1
    refine b_X8_always_21.go C ⟨trivial, ?_⟩
    exact V_iret C X d_X8_always_22 (Nat.zero_le _) (Nat.zero_le _) (Or.inl ⟨h, rfl, hR⟩)
  refine b_X8_always_0.go C ⟨trivial, ?_⟩
  refine k_X8_always_2.go C X (k_find (d + 9) G A n F K L v n hR hm) (rest := []) rfl rfl rfl (fun _ => ⟨_, _, _, rfl, hR.mn, by decide⟩) (lb rfl) (Rq.of (by omega) (by decide) (Nat.zero_le _) (Nat.zero_le _)) ?_
  rintro r G9 ⟨h9, rfl⟩
  replace h9 := h9.symm
  subst h9
  by_cases hs : nI 1 ≤ v ∧ v ≤ K 0 0
  rotate_left
  · rw [if_neg hs]
    refine b_X8_always_5.go C ⟨fun _ => ⟨trivial, ?_⟩, fun _ h => by cases h⟩
    exact no (fun z => hs z.1) _ _
  have hs0 := hs
  obtain ⟨j, hj1, hj2, rfl⟩ := sT hm hs
  have h2000 := hm.2.2.1
  have ej : (nI j).toNatClampNeg = j := nI_clamp (by omega)
  rw [ej] at hO no hP9 ⊢
  rw [if_pos hs0]
  refine b_X8_always_5.go C ⟨fun h => (by cases h), fun _ _ => ⟨trivial, ?_⟩⟩
  refine b_X8_always_12.go C ⟨trivial, ?_⟩
  refine k_X8_always_15.go C X (k_isWork (d + 9) G w (nI 1) x) (rest := []) rfl rfl rfl (fun h => absurd rfl h) (lb rfl) (Rq.of (by omega) (by decide) (Nat.zero_le _) (Nat.zero_le _)) ?_
  rintro r G9 ⟨h9, rfl⟩
  replace h9 := h9.symm
  subst h9
  refine b_X8_always_18.go C ⟨fun h6 => ⟨trivial, ?_⟩, fun h6 => ⟨trivial, ?_⟩⟩
  rotate_left
  · exact no (fun z => by have z2 := z.2; rw [show iwB w (nI 1) x = false from bI_0 h6] at z2; cases z2) _ _
  have hok : alwP K (nI j) w x := ⟨hs0, bI_1 h6⟩
  refine b_X8_always_23.go C ⟨_, hR.mn, nI (n + 2), (congrArg (· + nI 2) hm.1).trans (nI_add _ _), fun h9 => ⟨trivial, ?_⟩, fun h9 => ⟨trivial, ?_⟩⟩
  rotate_left
  · refine b_X8_always_35.go C ⟨trivial, ?_⟩
    refine V_iret C X d_X8_always_37 (Nat.zero_le _) (Nat.zero_le _) (Or.inr (Or.inl ⟨hok, ?_, rfl, hR⟩))
    refine Decidable.byContradiction (fun z => h9 ((nI_leI (by omega) (by omega)).mpr (by omega)))
  have h199 : n < 199 := by
    have := (nI_leI (by omega) (by omega)).mp h9
    omega
  have hls : ∀ u ∈ [j], 1 ≤ u ∧ u ≤ n := fun u hu => by rw [List.mem_singleton.mp hu]; exact ⟨hj1, hj2⟩
  have hl24 : [j].length ≤ 24 := by simp
  obtain ⟨hm2, o1, o2, o3, o4, o5, o6⟩ := hO hok h199
  have h9 := hP9 hok h199
  clear hP9
  refine b_X8_always_38.go C ⟨(by show _ ≤ (160 + ((PhK K F - P9) + (P9 - PhK E.1 E.2))); omega), (by show _ ≤ (160 + ((PhK K F - P9) + (P9 - PhK E.1 E.2))); omega), fun q hq => ?_⟩
  have R1 := hR.fresh hq (stC true (fun _ => 0) (fun _ => none))
  refine ⟨_, R1.mn, nI (n + 1), (congrArg (· + nI 1) hm.1).trans (nI_1 _), trivial, ?_⟩
  refine k_X8_always_51.go C X (k_inputsOf1 (d + 10) _ A n F K L j R1 ⟨hj1, hj2⟩) (rest := [.inl (nI 4), .inl (nI (n + 1)), .inr (.inr (some q)), .inr (.inr (some q))]) rfl rfl rfl (fun h => absurd rfl h) (lb rfl) (Rq.of (by omega) (by decide) (by show _ ≤ (160 + ((PhK K F - P9) + (P9 - PhK E.1 E.2))); omega) (by show _ ≤ (160 + ((PhK K F - P9) + (P9 - PhK E.1 E.2))); omega)) ?_
  rintro r G9 ⟨qi, hqi, rfl, rfl⟩
  have d1 : q ≠ qi := ne_none up_eq hqi
  have hqi' : G qi = none := (up_ne (Ne.symm d1)).symm.trans hqi
  have R2 := R1.fresh hqi (inA A [j])
  refine b_X8_always_54.go C ⟨trivial, ?_⟩
  refine k_X8_always_58.go C X (k_WorkInit d _ A n F K L q qi (n + 1) (fun _ => 0) (fun _ => none) (nI 4) w x y [j] R2 ((up_ne d1).trans up_eq) (oth_none hR hq) up_eq hls hl24 (by omega)) (rest := [.inr (.inr (some q))]) rfl rfl rfl (fun _ => ⟨_, _, _, rfl, (up_ne d1).trans up_eq, by decide⟩) (lb rfl) (Rq.of (by omega) (by decide) (by show _ ≤ (160 + ((PhK K F - P9) + (P9 - PhK E.1 E.2))); omega) (by show _ ≤ (160 + ((PhK K F - P9) + (P9 - PhK E.1 E.2))); omega)) ?_
  rintro r G8 ⟨rfl, qh, qp, qe, hqh, hqp, hqe, d8, d9, d0, rfl⟩
  obtain ⟨R3, hold⟩ := hR.mkW0 (by omega) [j] (hgN L (n + 1) [j]) hls hl24 hq hqi' d1 hqh hqp hqe d8 d9 d0 (nI 4) w x y (by decide +kernel)
  have eA0 : nwA A (n + 1) (Q3 q qi qh qp qe) 0 0 = A 0 0 := nwA_n (by omega)
  have eA1 : nwA A (n + 1) (Q3 q qi qh qp qe) 1 (n + 1) = q := nwA_s (Or.inl rfl)
  have eAj : nwA A (n + 1) (Q3 q qi qh qp qe) 1 j = A 1 j := nwA_n (by omega)
  have e0 : (mkKw K (n + 1) (begW n (nI 4) w x y) [j] 0) 0 0 = nI n := (stg_o (by omega) (by omega) (by omega) (by omega)).trans hm.1
  have e10 : (mkKw K (n + 1) (begW n (nI 4) w x y) [j] 0) 10 (n + 1) = nI (n + 1) := by unfold mkKw; rw [stg_s (by omega) (by decide) (by decide), if_neg (by decide), if_neg (by decide), if_neg (by decide)]; rfl
  have eph : PhK (mkKw K (n + 1) (begW n (nI 4) w x y) [j] 0) F = PhK K F := PhK_stg (by omega)
  have eL : ∀ f i9, isLs f → (mkKw K (n + 1) (begW n (nI 4) w x y) [j] 0) f i9 = K f i9 := stg_ls (by omega)
  have ko := k_openWork (l := l) d _ _ F _ _ n R3 e0 (inK_stg hl24 (by omega) hls (by omega)) (by omega) e10 (wk_isWK (by omega) (show decide (nI 1 ≤ nI 4 ∧ nI 4 ≤ nI 4) = true by decide +kernel)) (LOk_e (by decide) eL (LOk_n hrd.1)) (by rw [lsL_e (by decide) eL]; exact hrd.2)
  rw [eA0, eA1, eph] at ko
  refine b_X8_always_61.go C ⟨trivial, ?_⟩
  refine k_X8_always_66.go C X ko (rest := []) rfl rfl rfl (fun _ => ⟨_, _, _, rfl, by have := R3.mn; rw [eA0] at this; exact this, by decide⟩) (lb rfl) (Rq.of (by omega) (by decide) (by show _ ≤ (160 + ((PhK K F - P9) + (P9 - PhK E.1 E.2))); omega) (by show _ ≤ (160 + ((PhK K F - P9) + (P9 - PhK E.1 E.2))); omega)) ?_
  rintro r G7 ⟨rfl, A7, R7, hA7⟩
  have f0 : A7 0 0 = A 0 0 := hA7.kt.trans eA0
  have f1 : A7 1 (n + 1) = q := (hA7.sg _).trans eA1
  have fj : A7 1 j = A 1 j := (hA7.sg _).trans eAj
  clear ko R1 R2 R3 hold eA0 eA1 eAj e0 e10 eph eL hA7 hq hqi hqi' hqh hqp hqe d1 d8 d9 d0
  have fA : A 0 0 = A7 0 0 := f0.symm
  generalize hW9 : (owK (mkKw K (n + 1) (begW n (nI 4) w x y) [j] 0) (n + 1)) = W at *
  generalize hL9 : (upLt L (n + 1) (hgN L (n + 1) [j])) = L9 at *
  rw [← fj, ← f1, ← f0]
  have hls2 : ∀ u ∈ in2 j (n + 1), 1 ≤ u ∧ u ≤ n + 1 := fun u hu => by
    unfold in2 at hu
    split at hu
    · rw [List.mem_singleton.mp hu]; omega
    · rcases List.mem_cons.mp hu with rfl | hu
      · omega
      · rw [List.mem_singleton.mp hu]; omega
  have hl242 : (in2 j (n + 1)).length ≤ 24 := by unfold in2; split <;> simp
  refine b_X8_always_69.go C ⟨(by show _ ≤ (160 + ((PhK K F - P9) + (P9 - PhK E.1 E.2))); omega), (by show _ ≤ (160 + ((PhK K F - P9) + (P9 - PhK E.1 E.2))); omega), fun q hq => ?_⟩
  have R1 := R7.fresh hq (stC false (fun _ => 0) (fun _ => none))
  refine ⟨_, R1.mn, nI (n + 1 + 1), (congrArg (· + nI 1) hm2.1).trans (nI_1 _), trivial, ?_⟩
  refine kx_always_87.go C X (k_inputsOf2 (d + 9) _ A7 (n + 1) F W L9 j (n + 1) R1 ⟨hj1, by omega⟩ ⟨by omega, by omega⟩) (rest := [.inl (nI 11), .inl (nI (n + 1 + 1)), .inr (.inr (some q)), .inr (.inr (some q)), .inr (.inr (some (A7 0 0)))]) rfl rfl rfl (fun h => absurd rfl h) rfl (lb rfl) (Rq.of (by omega) (by decide) (by show _ ≤ (160 + ((PhK K F - P9) + (P9 - PhK E.1 E.2))); omega) (by show _ ≤ (160 + ((PhK K F - P9) + (P9 - PhK E.1 E.2))); omega)) ?_
  rintro r G9 ⟨qi, hqi, rfl, rfl⟩
  have d1 : q ≠ qi := ne_none up_eq hqi
  have hqi' : G7 qi = none := (up_ne (Ne.symm d1)).symm.trans hqi
  have R2 := R1.fresh hqi (inA A7 (in2 j (n + 1)))
  refine b_X8_always_90.go C ⟨trivial, ?_⟩
  refine k_X8_always_92.go C X (k_StageInit d _ A7 (n + 1) F W L9 q qi (n + 1 + 1) false (fun _ => 0) (fun _ => none) (nI 11) (nI 0) (nI 0) (in2 j (n + 1)) R2 ((up_ne d1).trans up_eq) (oth_none R7 hq) up_eq hls2 hl242 (by omega)) (rest := [.inr (.inr (some q)), .inr (.inr (some (A7 0 0)))]) rfl rfl rfl (fun _ => ⟨_, _, _, rfl, (up_ne d1).trans up_eq, by decide⟩) (lb rfl) (Rq.of (by omega) (by decide) (by show _ ≤ (160 + ((PhK K F - P9) + (P9 - PhK E.1 E.2))); omega) (by show _ ≤ (160 + ((PhK K F - P9) + (P9 - PhK E.1 E.2))); omega)) ?_
  rintro r G8 ⟨rfl, qh, hqh, rfl⟩
  have d3 : qi ≠ qh := ne_none up_eq hqh
  have hqh1 := (up_ne (Ne.symm d3)).symm.trans hqh
  have d2 : q ≠ qh := ne_none up_eq hqh1
  have hqh' : G7 qh = none := (up_ne (Ne.symm d2)).symm.trans hqh1
  obtain ⟨R3, hold⟩ := R7.mkS (by omega) (c0 := some (stC false (fun _ => 0) (fun _ => none))) (in2 j (n + 1)) (hgN L9 (n + 1 + 1) (in2 j (n + 1))) hls2 hl242 hq hqi' hqh' d1 d2 d3 (beg (n + 1) (nI 11) (nI 0) (nI 0)) (show decide (nI 1 ≤ nI 11 ∧ nI 11 ≤ nI 4) = false by decide +kernel)
  have eA0 : nwA A7 (n + 1 + 1) (Q3 q qi qh 0 0) 0 0 = A7 0 0 := nwA_n (by omega)
  have eA1 : nwA A7 (n + 1 + 1) (Q3 q qi qh 0 0) 1 (n + 1 + 1) = q := nwA_s (Or.inl rfl)
  have e0 : mkK W (n + 1 + 1) (beg (n + 1) (nI 11) (nI 0) (nI 0)) (in2 j (n + 1)) 0 0 = nI (n + 1) := (stg_o (by omega) (by omega) (by omega) (by omega)).trans hm2.1
  have e10 : mkK W (n + 1 + 1) (beg (n + 1) (nI 11) (nI 0) (nI 0)) (in2 j (n + 1)) 10 (n + 1 + 1) = nI (n + 1 + 1) := by unfold mkK; rw [stg_s (by omega) (by decide) (by decide), if_neg (by decide), if_neg (by decide), if_neg (by decide)]; rfl
  have eph : PhK (mkK W (n + 1 + 1) (beg (n + 1) (nI 11) (nI 0) (nI 0)) (in2 j (n + 1))) F = PhK W F := PhK_stg (by omega)
  have ko := k_open (l := l) d _ _ F _ _ (n + 1) I o1 R3 e0 o2 (by omega) e10 o3 o4 E o5 o6
  rw [eA0, eA1, eph] at ko
  refine k_X8_always_95.go C X ko (rest := []) rfl rfl rfl (fun _ => ⟨_, _, _, rfl, by have := R3.mn; rw [eA0] at this; exact this, by decide⟩) (lb rfl) (Rq.of (by omega) (by decide) (by show _ ≤ (160 + ((PhK K F - P9) + (P9 - PhK E.1 E.2))); omega) (by show _ ≤ (160 + ((PhK K F - P9) + (P9 - PhK E.1 E.2))); omega)) ?_
  rintro r G6 ⟨rfl, A6, R6, hA6⟩
  exact V_iret C X d_X8_always_98 (by show _ ≤ (160 + ((PhK K F - P9) + (P9 - PhK E.1 E.2))); omega) (by show _ ≤ (160 + ((PhK K F - P9) + (P9 - PhK E.1 E.2))); omega) (Or.inr (Or.inr ⟨hok, h199, rfl, A6, R6, (hA6.kt.trans eA0)⟩))
end CQ
