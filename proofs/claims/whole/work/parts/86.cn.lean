/-! the class: both, first, onFailure, all, any, limit -/
section CN
variable {l : Launch} {Y : YT}
def bthP (K : MS) (v u w : Int32) : Prop := (nI 1 ≤ v ∧ v ≤ K 0 0) ∧ (nI 1 ≤ u ∧ u ≤ K 0 0) ∧ (nI 0 ≤ w ∧ w ≤ nI 4)
set_option maxHeartbeats 2000000 in
theorem k_both (d : Nat) (G : GH) (A : AS) (n F : Nat) (K : MS) (L : KL) (v u w : Int32) (I : MS → Nat → KL → Prop) (E : MS × Nat) (hR : KR Y G A n F K L) (hm : mdK K n n)  (hO : bthP K v u w → n < 200 → OpOk n (mkK K (n + 1) (beg n (nI 6) (w) (nI 0)) (in2 v.toNatClampNeg u.toNatClampNeg)) F (upLt L (n + 1) (hgN L (n + 1) (in2 v.toNatClampNeg u.toNatClampNeg))) I E) : Cd l yX8_both cX8_both 6 (some .int) (d + 11) (110 + (PhK K F - PhK E.1 E.2)) (110 + (PhK K F - PhK E.1 E.2)) Y [.inr (.inr (some (A 0 0))), .inl v, .inl u, .inl w] G (fun r G' => (¬ bthP K v u w ∧ r = some (.inl (-1)) ∧ KR Y G' A n F K L) ∨ (bthP K v u w ∧ n = 200 ∧ r = some (.inl (-2)) ∧ KR Y G' A n F K L) ∨ (bthP K v u w ∧ n < 200 ∧ r = some (.inl (nI (n + 1))) ∧ ∃ A', KR Y G' A' (n + 1) E.2 E.1 (upLt L (n + 1) (hgN L (n + 1) (in2 v.toNatClampNeg u.toNatClampNeg))) ∧ A' 0 0 = A 0 0)) := by
  refine Ct.of (ini := False) (by decide +kernel) False.elim rfl (Nat.le_of_ble_eq_true rfl) ?_
  intro p e s m args below meth c C X
  have no : ¬ bthP K v u w → ∀ (x0 x1 : Option AV), V p l e (RM (d + 11) (110 + (PhK K F - PhK E.1 E.2)) (110 + (PhK K F - PhK E.1 E.2))) s m args below meth c Y (GA G s.heap.size) (QM below args s (RM (d + 11) (110 + (PhK K F - PhK E.1 E.2)) (110 + (PhK K F - PhK E.1 E.2))) Y G (fun r G' => (¬ bthP K v u w ∧ r = some (.inl (-1)) ∧ KR Y G' A n F K L) ∨ (bthP K v u w ∧ n = 200 ∧ r = some (.inl (-2)) ∧ KR Y G' A n F K L) ∨ (bthP K v u w ∧ n < 200 ∧ r = some (.inl (nI (n + 1))) ∧ ∃ A', KR Y G' A' (n + 1) E.2 E.1 (upLt L (n + 1) (hgN L (n + 1) (in2 v.toNatClampNeg u.toNatClampNeg))) ∧ A' 0 0 = A 0 0))) 33 G 0 0 [some (.inr (.inr (some (A 0 0)))), some (.inl v), some (.inl u), some (.inl w), x0, x1] [] := by
    intro h x0 x1
    refine b_X8_both_33.go C ⟨trivial, ?_⟩
    exact V_iret C X d_X8_both_34 (Nat.zero_le _) (Nat.zero_le _) (Or.inl ⟨h, rfl, hR⟩)
  refine b_X8_both_0.go C ⟨trivial, ?_⟩
  refine k_X8_both_2.go C X (k_find (d + 9) G A n F K L v n hR hm) (rest := []) rfl rfl rfl (fun _ => ⟨_, _, _, rfl, hR.mn, by decide⟩) (lb rfl) (Rq.of (by omega) (by decide) (Nat.zero_le _) (Nat.zero_le _)) ?_
  rintro r G9 ⟨h9, rfl⟩
  replace h9 := h9.symm
  subst h9
  refine b_X8_both_5.go C ⟨trivial, ?_⟩
  refine k_X8_both_9.go C X (k_find (d + 9) G A n F K L u n hR hm) (rest := []) rfl rfl rfl (fun _ => ⟨_, _, _, rfl, hR.mn, by decide⟩) (lb rfl) (Rq.of (by omega) (by decide) (Nat.zero_le _) (Nat.zero_le _)) ?_
  rintro r G9 ⟨h9, rfl⟩
  replace h9 := h9.symm
  subst h9
  by_cases hs : nI 1 ≤ v ∧ v ≤ K 0 0
  rotate_left
  · rw [if_neg hs]
    refine b_X8_both_12.go C ⟨fun _ => ⟨trivial, ?_⟩, fun _ h => by cases h⟩
    exact no (fun z => hs z.1) _ _
  by_cases ht : nI 1 ≤ u ∧ u ≤ K 0 0
  rotate_left
  · rw [if_pos hs, if_neg ht]
    refine b_X8_both_12.go C ⟨fun h => (by cases h), fun _ _ => ⟨trivial, ?_⟩⟩
    refine b_X8_both_19.go C ⟨fun _ => ⟨trivial, ?_⟩, fun _ h => by cases h⟩
    exact no (fun z => ht z.2.1) _ _
  have hs0 := hs
  have ht0 := ht
  obtain ⟨j, hj1, hj2, rfl⟩ := sT hm hs
  obtain ⟨i, hi1, hi2, rfl⟩ := sT hm ht
  have h2000 := hm.2.2.1
  have ej : (nI j).toNatClampNeg = j := nI_clamp (by omega)
  have ei : (nI i).toNatClampNeg = i := nI_clamp (by omega)
  rw [ej, ei] at hO no ⊢
  rw [if_pos hs0, if_pos ht0]
  refine b_X8_both_12.go C ⟨fun h => (by cases h), fun _ _ => ⟨trivial, ?_⟩⟩
  refine b_X8_both_19.go C ⟨fun h => (by cases h), fun _ _ => ⟨trivial, ?_⟩⟩
  have hls : ∀ u ∈ in2 j i, 1 ≤ u ∧ u ≤ n := fun u hu => by
    unfold in2 at hu
    split at hu
    · rw [List.mem_singleton.mp hu]; exact ⟨hj1, hj2⟩
    · rcases List.mem_cons.mp hu with rfl | hu
      · exact ⟨hj1, hj2⟩
      · rw [List.mem_singleton.mp hu]; exact ⟨hi1, hi2⟩
  have hl24 : (in2 j i).length ≤ 24 := by unfold in2; split <;> simp
  refine b_X8_both_24.go C ⟨trivial, ?_⟩
  refine k_X8_both_27.go C X (c_isWithin (d + 10) G w (nI 0) (nI 4)) (rest := []) rfl rfl rfl (fun h => absurd rfl h) (lb rfl) (Rq.of (by omega) (by decide) (Nat.zero_le _) (Nat.zero_le _)) ?_
  rintro r G9 ⟨h9, rfl⟩
  replace h9 := h9.symm
  subst h9
  refine b_X8_both_30.go C ⟨fun h18 => ⟨trivial, ?_⟩, fun h18 => ⟨trivial, ?_⟩⟩
  rotate_left
  · exact no (fun z => wi_0 h18 z.2.2) _ _
  have hok : bthP K (nI j) (nI i) w := ⟨hs0, ht0, wi_1 h18⟩
  have hn := hm.2.2.1
  refine b_X8_both_35.go C ⟨by show _ ≤ 110 + (PhK K F - PhK E.1 E.2); omega, by show _ ≤ 110 + (PhK K F - PhK E.1 E.2); omega, fun q hq => ?_⟩
  have R1 := hR.fresh hq (stC false (fun _ => 0) (fun _ => none))
  refine ⟨_, R1.mn, nI (n + 1), (congrArg (· + nI 1) hm.1).trans (nI_1 _), trivial, ?_⟩
  refine kx_both_52.go C X (k_inputsOf2 (d + 9) _ A n F K L j i R1 ⟨hj1, hj2⟩ ⟨hi1, hi2⟩) (rest := [.inl (nI 6), .inl (nI (n + 1)), .inr (.inr (some q)), .inr (.inr (some q)), .inr (.inr (some (A 0 0)))]) rfl rfl rfl (fun h => absurd rfl h) rfl (lb rfl) (Rq.of (by omega) (by decide) (by show _ ≤ 110 + (PhK K F - PhK E.1 E.2); omega) (by show _ ≤ 110 + (PhK K F - PhK E.1 E.2); omega)) ?_
  rintro r G9 ⟨qi, hqi, rfl, rfl⟩
  have d1 : q ≠ qi := ne_none up_eq hqi
  have hqi' : G qi = none := (up_ne (Ne.symm d1)).symm.trans hqi
  have R2 := R1.fresh hqi (inA A (in2 j i))
  refine b_X8_both_55.go C ⟨trivial, ?_⟩
  refine k_X8_both_57.go C X (k_StageInit d _ A n F K L q qi (n + 1) false (fun _ => 0) (fun _ => none) (nI 6) (w) (nI 0) (in2 j i) R2 ((up_ne d1).trans up_eq) (oth_none hR hq) up_eq hls hl24 (by omega)) (rest := [.inr (.inr (some q)), .inr (.inr (some (A 0 0)))]) rfl rfl rfl (fun _ => ⟨_, _, _, rfl, (up_ne d1).trans up_eq, by decide⟩) (lb rfl) (Rq.of (by omega) (by decide) (by show _ ≤ 110 + (PhK K F - PhK E.1 E.2); omega) (by show _ ≤ 110 + (PhK K F - PhK E.1 E.2); omega)) ?_
  rintro r G8 ⟨rfl, qh, hqh, rfl⟩
  have d3 : qi ≠ qh := ne_none up_eq hqh
  have hqh1 := (up_ne (Ne.symm d3)).symm.trans hqh
  have d2 : q ≠ qh := ne_none up_eq hqh1
  have hqh' : G qh = none := (up_ne (Ne.symm d2)).symm.trans hqh1
  obtain ⟨R3, hold⟩ := hR.mkS hn (c0 := some (stC false (fun _ => 0) (fun _ => none))) (in2 j i) (hgN L (n + 1) (in2 j i)) hls hl24 hq hqi' hqh' d1 d2 d3 (beg n (nI 6) (w) (nI 0)) (show decide (nI 1 ≤ nI 6 ∧ nI 6 ≤ nI 4) = false by decide +kernel)
  have eA0 : nwA A (n + 1) (Q3 q qi qh 0 0) 0 0 = A 0 0 := nwA_n (by omega)
  have eA1 : nwA A (n + 1) (Q3 q qi qh 0 0) 1 (n + 1) = q := nwA_s (Or.inl rfl)
  have e0 : mkK K (n + 1) (beg n (nI 6) (w) (nI 0)) (in2 j i) 0 0 = nI n := (stg_o (by omega) (by omega) (by omega) (by omega)).trans hm.1
  have e10 : mkK K (n + 1) (beg n (nI 6) (w) (nI 0)) (in2 j i) 10 (n + 1) = nI (n + 1) := by unfold mkK; rw [stg_s (by omega) (by decide) (by decide), if_neg (by decide), if_neg (by decide), if_neg (by decide)]; rfl
  have eph : PhK (mkK K (n + 1) (beg n (nI 6) (w) (nI 0)) (in2 j i)) F = PhK K F := PhK_stg (by omega)
  by_cases h200 : n = 200
  · have ko := k_openF (l := l) d _ _ (n + 1) F _ _ q R3 (e0.trans (by rw [h200]))
    rw [eA0] at ko
    refine k_X8_both_60.go C X ko (rest := []) rfl rfl rfl (fun _ => ⟨_, _, _, rfl, by have := R3.mn; rw [eA0] at this; exact this, by decide⟩) (lb rfl) (Rq.of (by omega) (by decide) (by show _ ≤ 110 + (PhK K F - PhK E.1 E.2); omega) (by show _ ≤ 110 + (PhK K F - PhK E.1 E.2); omega)) ?_
    rintro r G7 ⟨rfl, h7⟩
    replace h7 := h7.symm
    subst h7
    exact V_iret C X d_X8_both_63 (by show _ ≤ 110 + (PhK K F - PhK E.1 E.2); omega) (by show _ ≤ 110 + (PhK K F - PhK E.1 E.2); omega) (Or.inr (Or.inl ⟨hok, h200, rfl, hR.hold hold⟩))
  · obtain ⟨o1, o2, o3, o4, o5, o6⟩ := hO hok (by omega)
    have ko := k_open (l := l) d _ _ F _ _ n I o1 R3 e0 o2 (by omega) e10 o3 o4 E o5 o6
    rw [eA0, eA1, eph] at ko
    refine k_X8_both_60.go C X ko (rest := []) rfl rfl rfl (fun _ => ⟨_, _, _, rfl, by have := R3.mn; rw [eA0] at this; exact this, by decide⟩) (lb rfl) (Rq.of (by omega) (by decide) (by show _ ≤ 110 + (PhK K F - PhK E.1 E.2); omega) (by show _ ≤ 110 + (PhK K F - PhK E.1 E.2); omega)) ?_
    rintro r G7 ⟨rfl, A7, R7, hA7⟩
    exact V_iret C X d_X8_both_63 (by show _ ≤ 110 + (PhK K F - PhK E.1 E.2); omega) (by show _ ≤ 110 + (PhK K F - PhK E.1 E.2); omega) (Or.inr (Or.inr ⟨hok, by omega, rfl, A7, R7, hA7.kt.trans eA0⟩))
def frsP (K : MS) (v u : Int32) : Prop := (nI 1 ≤ v ∧ v ≤ K 0 0) ∧ (nI 1 ≤ u ∧ u ≤ K 0 0)
set_option maxHeartbeats 2000000 in
theorem k_first (d : Nat) (G : GH) (A : AS) (n F : Nat) (K : MS) (L : KL) (v u : Int32) (I : MS → Nat → KL → Prop) (E : MS × Nat) (hR : KR Y G A n F K L) (hm : mdK K n n)  (hO : frsP K v u → n < 200 → OpOk n (mkK K (n + 1) (beg n (nI 7) (nI 0) (nI 0)) (in2 v.toNatClampNeg u.toNatClampNeg)) F (upLt L (n + 1) (hgN L (n + 1) (in2 v.toNatClampNeg u.toNatClampNeg))) I E) : Cd l yX8_first cX8_first 5 (some .int) (d + 11) (110 + (PhK K F - PhK E.1 E.2)) (110 + (PhK K F - PhK E.1 E.2)) Y [.inr (.inr (some (A 0 0))), .inl v, .inl u] G (fun r G' => (¬ frsP K v u ∧ r = some (.inl (-1)) ∧ KR Y G' A n F K L) ∨ (frsP K v u ∧ n = 200 ∧ r = some (.inl (-2)) ∧ KR Y G' A n F K L) ∨ (frsP K v u ∧ n < 200 ∧ r = some (.inl (nI (n + 1))) ∧ ∃ A', KR Y G' A' (n + 1) E.2 E.1 (upLt L (n + 1) (hgN L (n + 1) (in2 v.toNatClampNeg u.toNatClampNeg))) ∧ A' 0 0 = A 0 0)) := by
  refine Ct.of (ini := False) (by decide +kernel) False.elim rfl (Nat.le_of_ble_eq_true rfl) ?_
  intro p e s m args below meth c C X
  have no : ¬ frsP K v u → ∀ (x0 x1 : Option AV), V p l e (RM (d + 11) (110 + (PhK K F - PhK E.1 E.2)) (110 + (PhK K F - PhK E.1 E.2))) s m args below meth c Y (GA G s.heap.size) (QM below args s (RM (d + 11) (110 + (PhK K F - PhK E.1 E.2)) (110 + (PhK K F - PhK E.1 E.2))) Y G (fun r G' => (¬ frsP K v u ∧ r = some (.inl (-1)) ∧ KR Y G' A n F K L) ∨ (frsP K v u ∧ n = 200 ∧ r = some (.inl (-2)) ∧ KR Y G' A n F K L) ∨ (frsP K v u ∧ n < 200 ∧ r = some (.inl (nI (n + 1))) ∧ ∃ A', KR Y G' A' (n + 1) E.2 E.1 (upLt L (n + 1) (hgN L (n + 1) (in2 v.toNatClampNeg u.toNatClampNeg))) ∧ A' 0 0 = A 0 0))) 22 G 0 0 [some (.inr (.inr (some (A 0 0)))), some (.inl v), some (.inl u), x0, x1] [] := by
    intro h x0 x1
    refine b_X8_first_22.go C ⟨trivial, ?_⟩
    exact V_iret C X d_X8_first_23 (Nat.zero_le _) (Nat.zero_le _) (Or.inl ⟨h, rfl, hR⟩)
  refine b_X8_first_0.go C ⟨trivial, ?_⟩
  refine k_X8_first_2.go C X (k_find (d + 9) G A n F K L v n hR hm) (rest := []) rfl rfl rfl (fun _ => ⟨_, _, _, rfl, hR.mn, by decide⟩) (lb rfl) (Rq.of (by omega) (by decide) (Nat.zero_le _) (Nat.zero_le _)) ?_
  rintro r G9 ⟨h9, rfl⟩
  replace h9 := h9.symm
  subst h9
  refine b_X8_first_5.go C ⟨trivial, ?_⟩
  refine k_X8_first_8.go C X (k_find (d + 9) G A n F K L u n hR hm) (rest := []) rfl rfl rfl (fun _ => ⟨_, _, _, rfl, hR.mn, by decide⟩) (lb rfl) (Rq.of (by omega) (by decide) (Nat.zero_le _) (Nat.zero_le _)) ?_
  rintro r G9 ⟨h9, rfl⟩
  replace h9 := h9.symm
  subst h9
  by_cases hs : nI 1 ≤ v ∧ v ≤ K 0 0
  rotate_left
  · rw [if_neg hs]
    refine b_X8_first_11.go C ⟨fun _ => ⟨trivial, ?_⟩, fun _ h => by cases h⟩
    exact no (fun z => hs z.1) _ _
  by_cases ht : nI 1 ≤ u ∧ u ≤ K 0 0
  rotate_left
  · rw [if_pos hs, if_neg ht]
    refine b_X8_first_11.go C ⟨fun h => (by cases h), fun _ _ => ⟨trivial, ?_⟩⟩
    refine b_X8_first_17.go C ⟨fun _ h => (by cases h), fun _ => ⟨trivial, ?_⟩⟩
    exact no (fun z => ht z.2) _ _
  have hs0 := hs
  have ht0 := ht
  obtain ⟨j, hj1, hj2, rfl⟩ := sT hm hs
  obtain ⟨i, hi1, hi2, rfl⟩ := sT hm ht
  have h2000 := hm.2.2.1
  have ej : (nI j).toNatClampNeg = j := nI_clamp (by omega)
  have ei : (nI i).toNatClampNeg = i := nI_clamp (by omega)
  rw [ej, ei] at hO no ⊢
  rw [if_pos hs0, if_pos ht0]
  refine b_X8_first_11.go C ⟨fun h => (by cases h), fun _ _ => ⟨trivial, ?_⟩⟩
  refine b_X8_first_17.go C ⟨fun _ _ => ⟨trivial, ?_⟩, fun h => by cases h⟩
  have hls : ∀ u ∈ in2 j i, 1 ≤ u ∧ u ≤ n := fun u hu => by
    unfold in2 at hu
    split at hu
    · rw [List.mem_singleton.mp hu]; exact ⟨hj1, hj2⟩
    · rcases List.mem_cons.mp hu with rfl | hu
      · exact ⟨hj1, hj2⟩
      · rw [List.mem_singleton.mp hu]; exact ⟨hi1, hi2⟩
  have hl24 : (in2 j i).length ≤ 24 := by unfold in2; split <;> simp
  have hok : frsP K (nI j) (nI i) := ⟨hs0, ht0⟩
  have hn := hm.2.2.1
  refine b_X8_first_24.go C ⟨by show _ ≤ 110 + (PhK K F - PhK E.1 E.2); omega, by show _ ≤ 110 + (PhK K F - PhK E.1 E.2); omega, fun q hq => ?_⟩
  have R1 := hR.fresh hq (stC false (fun _ => 0) (fun _ => none))
  refine ⟨_, R1.mn, nI (n + 1), (congrArg (· + nI 1) hm.1).trans (nI_1 _), trivial, ?_⟩
  refine kx_first_40.go C X (k_inputsOf2 (d + 9) _ A n F K L j i R1 ⟨hj1, hj2⟩ ⟨hi1, hi2⟩) (rest := [.inl (nI 7), .inl (nI (n + 1)), .inr (.inr (some q)), .inr (.inr (some q)), .inr (.inr (some (A 0 0)))]) rfl rfl rfl (fun h => absurd rfl h) rfl (lb rfl) (Rq.of (by omega) (by decide) (by show _ ≤ 110 + (PhK K F - PhK E.1 E.2); omega) (by show _ ≤ 110 + (PhK K F - PhK E.1 E.2); omega)) ?_
  rintro r G9 ⟨qi, hqi, rfl, rfl⟩
  have d1 : q ≠ qi := ne_none up_eq hqi
  have hqi' : G qi = none := (up_ne (Ne.symm d1)).symm.trans hqi
  have R2 := R1.fresh hqi (inA A (in2 j i))
  refine b_X8_first_43.go C ⟨trivial, ?_⟩
  refine k_X8_first_45.go C X (k_StageInit d _ A n F K L q qi (n + 1) false (fun _ => 0) (fun _ => none) (nI 7) (nI 0) (nI 0) (in2 j i) R2 ((up_ne d1).trans up_eq) (oth_none hR hq) up_eq hls hl24 (by omega)) (rest := [.inr (.inr (some q)), .inr (.inr (some (A 0 0)))]) rfl rfl rfl (fun _ => ⟨_, _, _, rfl, (up_ne d1).trans up_eq, by decide⟩) (lb rfl) (Rq.of (by omega) (by decide) (by show _ ≤ 110 + (PhK K F - PhK E.1 E.2); omega) (by show _ ≤ 110 + (PhK K F - PhK E.1 E.2); omega)) ?_
  rintro r G8 ⟨rfl, qh, hqh, rfl⟩
  have d3 : qi ≠ qh := ne_none up_eq hqh
  have hqh1 := (up_ne (Ne.symm d3)).symm.trans hqh
  have d2 : q ≠ qh := ne_none up_eq hqh1
  have hqh' : G qh = none := (up_ne (Ne.symm d2)).symm.trans hqh1
  obtain ⟨R3, hold⟩ := hR.mkS hn (c0 := some (stC false (fun _ => 0) (fun _ => none))) (in2 j i) (hgN L (n + 1) (in2 j i)) hls hl24 hq hqi' hqh' d1 d2 d3 (beg n (nI 7) (nI 0) (nI 0)) (show decide (nI 1 ≤ nI 7 ∧ nI 7 ≤ nI 4) = false by decide +kernel)
  have eA0 : nwA A (n + 1) (Q3 q qi qh 0 0) 0 0 = A 0 0 := nwA_n (by omega)
  have eA1 : nwA A (n + 1) (Q3 q qi qh 0 0) 1 (n + 1) = q := nwA_s (Or.inl rfl)
  have e0 : mkK K (n + 1) (beg n (nI 7) (nI 0) (nI 0)) (in2 j i) 0 0 = nI n := (stg_o (by omega) (by omega) (by omega) (by omega)).trans hm.1
  have e10 : mkK K (n + 1) (beg n (nI 7) (nI 0) (nI 0)) (in2 j i) 10 (n + 1) = nI (n + 1) := by unfold mkK; rw [stg_s (by omega) (by decide) (by decide), if_neg (by decide), if_neg (by decide), if_neg (by decide)]; rfl
  have eph : PhK (mkK K (n + 1) (beg n (nI 7) (nI 0) (nI 0)) (in2 j i)) F = PhK K F := PhK_stg (by omega)
  by_cases h200 : n = 200
  · have ko := k_openF (l := l) d _ _ (n + 1) F _ _ q R3 (e0.trans (by rw [h200]))
    rw [eA0] at ko
    refine k_X8_first_48.go C X ko (rest := []) rfl rfl rfl (fun _ => ⟨_, _, _, rfl, by have := R3.mn; rw [eA0] at this; exact this, by decide⟩) (lb rfl) (Rq.of (by omega) (by decide) (by show _ ≤ 110 + (PhK K F - PhK E.1 E.2); omega) (by show _ ≤ 110 + (PhK K F - PhK E.1 E.2); omega)) ?_
    rintro r G7 ⟨rfl, h7⟩
    replace h7 := h7.symm
    subst h7
    exact V_iret C X d_X8_first_51 (by show _ ≤ 110 + (PhK K F - PhK E.1 E.2); omega) (by show _ ≤ 110 + (PhK K F - PhK E.1 E.2); omega) (Or.inr (Or.inl ⟨hok, h200, rfl, hR.hold hold⟩))
  · obtain ⟨o1, o2, o3, o4, o5, o6⟩ := hO hok (by omega)
    have ko := k_open (l := l) d _ _ F _ _ n I o1 R3 e0 o2 (by omega) e10 o3 o4 E o5 o6
    rw [eA0, eA1, eph] at ko
    refine k_X8_first_48.go C X ko (rest := []) rfl rfl rfl (fun _ => ⟨_, _, _, rfl, by have := R3.mn; rw [eA0] at this; exact this, by decide⟩) (lb rfl) (Rq.of (by omega) (by decide) (by show _ ≤ 110 + (PhK K F - PhK E.1 E.2); omega) (by show _ ≤ 110 + (PhK K F - PhK E.1 E.2); omega)) ?_
    rintro r G7 ⟨rfl, A7, R7, hA7⟩
    exact V_iret C X d_X8_first_51 (by show _ ≤ 110 + (PhK K F - PhK E.1 E.2); omega) (by show _ ≤ 110 + (PhK K F - PhK E.1 E.2); omega) (Or.inr (Or.inr ⟨hok, by omega, rfl, A7, R7, hA7.kt.trans eA0⟩))
def mofP (K : MS) (v w u : Int32) : Prop := (nI 1 ≤ v ∧ v ≤ K 0 0) ∧ (nI 1 ≤ u ∧ u ≤ K 0 0) ∧ (nI 0 ≤ w ∧ w ≤ nI 15)
set_option maxHeartbeats 2000000 in
theorem k_onFailure (d : Nat) (G : GH) (A : AS) (n F : Nat) (K : MS) (L : KL) (v w u : Int32) (I : MS → Nat → KL → Prop) (E : MS × Nat) (hR : KR Y G A n F K L) (hm : mdK K n n)  (hO : mofP K v w u → n < 200 → OpOk n (mkK K (n + 1) (beg n (nI 10) (w) (nI 0)) (in2 v.toNatClampNeg u.toNatClampNeg)) F (upLt L (n + 1) (hgN L (n + 1) (in2 v.toNatClampNeg u.toNatClampNeg))) I E) : Cd l yX8_onFailure cX8_onFailure 6 (some .int) (d + 11) (110 + (PhK K F - PhK E.1 E.2)) (110 + (PhK K F - PhK E.1 E.2)) Y [.inr (.inr (some (A 0 0))), .inl v, .inl w, .inl u] G (fun r G' => (¬ mofP K v w u ∧ r = some (.inl (-1)) ∧ KR Y G' A n F K L) ∨ (mofP K v w u ∧ n = 200 ∧ r = some (.inl (-2)) ∧ KR Y G' A n F K L) ∨ (mofP K v w u ∧ n < 200 ∧ r = some (.inl (nI (n + 1))) ∧ ∃ A', KR Y G' A' (n + 1) E.2 E.1 (upLt L (n + 1) (hgN L (n + 1) (in2 v.toNatClampNeg u.toNatClampNeg))) ∧ A' 0 0 = A 0 0)) := by
  refine Ct.of (ini := False) (by decide +kernel) False.elim rfl (Nat.le_of_ble_eq_true rfl) ?_
  intro p e s m args below meth c C X
  have no : ¬ mofP K v w u → ∀ (x0 x1 : Option AV), V p l e (RM (d + 11) (110 + (PhK K F - PhK E.1 E.2)) (110 + (PhK K F - PhK E.1 E.2))) s m args below meth c Y (GA G s.heap.size) (QM below args s (RM (d + 11) (110 + (PhK K F - PhK E.1 E.2)) (110 + (PhK K F - PhK E.1 E.2))) Y G (fun r G' => (¬ mofP K v w u ∧ r = some (.inl (-1)) ∧ KR Y G' A n F K L) ∨ (mofP K v w u ∧ n = 200 ∧ r = some (.inl (-2)) ∧ KR Y G' A n F K L) ∨ (mofP K v w u ∧ n < 200 ∧ r = some (.inl (nI (n + 1))) ∧ ∃ A', KR Y G' A' (n + 1) E.2 E.1 (upLt L (n + 1) (hgN L (n + 1) (in2 v.toNatClampNeg u.toNatClampNeg))) ∧ A' 0 0 = A 0 0))) 34 G 0 0 [some (.inr (.inr (some (A 0 0)))), some (.inl v), some (.inl w), some (.inl u), x0, x1] [] := by
    intro h x0 x1
    refine b_X8_onFailure_34.go C ⟨trivial, ?_⟩
    exact V_iret C X d_X8_onFailure_35 (Nat.zero_le _) (Nat.zero_le _) (Or.inl ⟨h, rfl, hR⟩)
  refine b_X8_onFailure_0.go C ⟨trivial, ?_⟩
  refine k_X8_onFailure_2.go C X (k_find (d + 9) G A n F K L v n hR hm) (rest := []) rfl rfl rfl (fun _ => ⟨_, _, _, rfl, hR.mn, by decide⟩) (lb rfl) (Rq.of (by omega) (by decide) (Nat.zero_le _) (Nat.zero_le _)) ?_
  rintro r G9 ⟨h9, rfl⟩
  replace h9 := h9.symm
  subst h9
  refine b_X8_onFailure_5.go C ⟨trivial, ?_⟩
  refine k_X8_onFailure_9.go C X (k_find (d + 9) G A n F K L u n hR hm) (rest := []) rfl rfl rfl (fun _ => ⟨_, _, _, rfl, hR.mn, by decide⟩) (lb rfl) (Rq.of (by omega) (by decide) (Nat.zero_le _) (Nat.zero_le _)) ?_
  rintro r G9 ⟨h9, rfl⟩
  replace h9 := h9.symm
  subst h9
  by_cases hs : nI 1 ≤ v ∧ v ≤ K 0 0
  rotate_left
  · rw [if_neg hs]
    refine b_X8_onFailure_12.go C ⟨fun _ => ⟨trivial, ?_⟩, fun _ h => by cases h⟩
    exact no (fun z => hs z.1) _ _
  by_cases ht : nI 1 ≤ u ∧ u ≤ K 0 0
  rotate_left
  · rw [if_pos hs, if_neg ht]
    refine b_X8_onFailure_12.go C ⟨fun h => (by cases h), fun _ _ => ⟨trivial, ?_⟩⟩
    refine b_X8_onFailure_19.go C ⟨fun _ => ⟨trivial, ?_⟩, fun _ h => by cases h⟩
    exact no (fun z => ht z.2.1) _ _
  have hs0 := hs
  have ht0 := ht
  obtain ⟨j, hj1, hj2, rfl⟩ := sT hm hs
  obtain ⟨i, hi1, hi2, rfl⟩ := sT hm ht
  have h2000 := hm.2.2.1
  have ej : (nI j).toNatClampNeg = j := nI_clamp (by omega)
  have ei : (nI i).toNatClampNeg = i := nI_clamp (by omega)
  rw [ej, ei] at hO no ⊢
  rw [if_pos hs0, if_pos ht0]
  refine b_X8_onFailure_12.go C ⟨fun h => (by cases h), fun _ _ => ⟨trivial, ?_⟩⟩
  refine b_X8_onFailure_19.go C ⟨fun h => (by cases h), fun _ _ => ⟨trivial, ?_⟩⟩
  have hls : ∀ u ∈ in2 j i, 1 ≤ u ∧ u ≤ n := fun u hu => by
    unfold in2 at hu
    split at hu
    · rw [List.mem_singleton.mp hu]; exact ⟨hj1, hj2⟩
    · rcases List.mem_cons.mp hu with rfl | hu
      · exact ⟨hj1, hj2⟩
      · rw [List.mem_singleton.mp hu]; exact ⟨hi1, hi2⟩
  have hl24 : (in2 j i).length ≤ 24 := by unfold in2; split <;> simp
  refine b_X8_onFailure_24.go C ⟨trivial, ?_⟩
  refine k_X8_onFailure_28.go C X (c_isWithin (d + 10) G w (nI 0) (nI 15)) (rest := []) rfl rfl rfl (fun h => absurd rfl h) (lb rfl) (Rq.of (by omega) (by decide) (Nat.zero_le _) (Nat.zero_le _)) ?_
  rintro r G9 ⟨h9, rfl⟩
  replace h9 := h9.symm
  subst h9
  refine b_X8_onFailure_31.go C ⟨fun h18 => ⟨trivial, ?_⟩, fun h18 => ⟨trivial, ?_⟩⟩
  rotate_left
  · exact no (fun z => wi_0 h18 z.2.2) _ _
  have hok : mofP K (nI j) w (nI i) := ⟨hs0, ht0, wi_1 h18⟩
  have hn := hm.2.2.1
  refine b_X8_onFailure_36.go C ⟨by show _ ≤ 110 + (PhK K F - PhK E.1 E.2); omega, by show _ ≤ 110 + (PhK K F - PhK E.1 E.2); omega, fun q hq => ?_⟩
  have R1 := hR.fresh hq (stC false (fun _ => 0) (fun _ => none))
  refine ⟨_, R1.mn, nI (n + 1), (congrArg (· + nI 1) hm.1).trans (nI_1 _), trivial, ?_⟩
  refine kx_onFailure_53.go C X (k_inputsOf2 (d + 9) _ A n F K L j i R1 ⟨hj1, hj2⟩ ⟨hi1, hi2⟩) (rest := [.inl (nI 10), .inl (nI (n + 1)), .inr (.inr (some q)), .inr (.inr (some q)), .inr (.inr (some (A 0 0)))]) rfl rfl rfl (fun h => absurd rfl h) rfl (lb rfl) (Rq.of (by omega) (by decide) (by show _ ≤ 110 + (PhK K F - PhK E.1 E.2); omega) (by show _ ≤ 110 + (PhK K F - PhK E.1 E.2); omega)) ?_
  rintro r G9 ⟨qi, hqi, rfl, rfl⟩
  have d1 : q ≠ qi := ne_none up_eq hqi
  have hqi' : G qi = none := (up_ne (Ne.symm d1)).symm.trans hqi
  have R2 := R1.fresh hqi (inA A (in2 j i))
  refine b_X8_onFailure_56.go C ⟨trivial, ?_⟩
  refine k_X8_onFailure_58.go C X (k_StageInit d _ A n F K L q qi (n + 1) false (fun _ => 0) (fun _ => none) (nI 10) (w) (nI 0) (in2 j i) R2 ((up_ne d1).trans up_eq) (oth_none hR hq) up_eq hls hl24 (by omega)) (rest := [.inr (.inr (some q)), .inr (.inr (some (A 0 0)))]) rfl rfl rfl (fun _ => ⟨_, _, _, rfl, (up_ne d1).trans up_eq, by decide⟩) (lb rfl) (Rq.of (by omega) (by decide) (by show _ ≤ 110 + (PhK K F - PhK E.1 E.2); omega) (by show _ ≤ 110 + (PhK K F - PhK E.1 E.2); omega)) ?_
  rintro r G8 ⟨rfl, qh, hqh, rfl⟩
  have d3 : qi ≠ qh := ne_none up_eq hqh
  have hqh1 := (up_ne (Ne.symm d3)).symm.trans hqh
  have d2 : q ≠ qh := ne_none up_eq hqh1
  have hqh' : G qh = none := (up_ne (Ne.symm d2)).symm.trans hqh1
  obtain ⟨R3, hold⟩ := hR.mkS hn (c0 := some (stC false (fun _ => 0) (fun _ => none))) (in2 j i) (hgN L (n + 1) (in2 j i)) hls hl24 hq hqi' hqh' d1 d2 d3 (beg n (nI 10) (w) (nI 0)) (show decide (nI 1 ≤ nI 10 ∧ nI 10 ≤ nI 4) = false by decide +kernel)
  have eA0 : nwA A (n + 1) (Q3 q qi qh 0 0) 0 0 = A 0 0 := nwA_n (by omega)
  have eA1 : nwA A (n + 1) (Q3 q qi qh 0 0) 1 (n + 1) = q := nwA_s (Or.inl rfl)
  have e0 : mkK K (n + 1) (beg n (nI 10) (w) (nI 0)) (in2 j i) 0 0 = nI n := (stg_o (by omega) (by omega) (by omega) (by omega)).trans hm.1
  have e10 : mkK K (n + 1) (beg n (nI 10) (w) (nI 0)) (in2 j i) 10 (n + 1) = nI (n + 1) := by unfold mkK; rw [stg_s (by omega) (by decide) (by decide), if_neg (by decide), if_neg (by decide), if_neg (by decide)]; rfl
  have eph : PhK (mkK K (n + 1) (beg n (nI 10) (w) (nI 0)) (in2 j i)) F = PhK K F := PhK_stg (by omega)
  by_cases h200 : n = 200
  · have ko := k_openF (l := l) d _ _ (n + 1) F _ _ q R3 (e0.trans (by rw [h200]))
    rw [eA0] at ko
    refine k_X8_onFailure_61.go C X ko (rest := []) rfl rfl rfl (fun _ => ⟨_, _, _, rfl, by have := R3.mn; rw [eA0] at this; exact this, by decide⟩) (lb rfl) (Rq.of (by omega) (by decide) (by show _ ≤ 110 + (PhK K F - PhK E.1 E.2); omega) (by show _ ≤ 110 + (PhK K F - PhK E.1 E.2); omega)) ?_
    rintro r G7 ⟨rfl, h7⟩
    replace h7 := h7.symm
    subst h7
    exact V_iret C X d_X8_onFailure_64 (by show _ ≤ 110 + (PhK K F - PhK E.1 E.2); omega) (by show _ ≤ 110 + (PhK K F - PhK E.1 E.2); omega) (Or.inr (Or.inl ⟨hok, h200, rfl, hR.hold hold⟩))
  · obtain ⟨o1, o2, o3, o4, o5, o6⟩ := hO hok (by omega)
    have ko := k_open (l := l) d _ _ F _ _ n I o1 R3 e0 o2 (by omega) e10 o3 o4 E o5 o6
    rw [eA0, eA1, eph] at ko
    refine k_X8_onFailure_61.go C X ko (rest := []) rfl rfl rfl (fun _ => ⟨_, _, _, rfl, by have := R3.mn; rw [eA0] at this; exact this, by decide⟩) (lb rfl) (Rq.of (by omega) (by decide) (by show _ ≤ 110 + (PhK K F - PhK E.1 E.2); omega) (by show _ ≤ 110 + (PhK K F - PhK E.1 E.2); omega)) ?_
    rintro r G7 ⟨rfl, A7, R7, hA7⟩
    exact V_iret C X d_X8_onFailure_64 (by show _ ≤ 110 + (PhK K F - PhK E.1 E.2); omega) (by show _ ≤ 110 + (PhK K F - PhK E.1 E.2); omega) (Or.inr (Or.inr ⟨hok, by omega, rfl, A7, R7, hA7.kt.trans eA0⟩))
theorem ig_of {K : MS} {n : Nat} {v q : Int32} (hm : mdK K n n) (h : igB K v q = true) : ∃ fr ct, 1 ≤ fr ∧ 1 ≤ ct ∧ ct ≤ 24 ∧ fr + ct ≤ n + 1 ∧ v = nI fr ∧ q = nI ct := by
  obtain ⟨h1, h2, h3⟩ := of_decide_eq_true h
  have h200 := hm.2.2.1
  obtain ⟨ct, c1, c2, rfl⟩ := in_of (a := 1) (b := 24) (by decide) h1 (by decide)
  obtain ⟨fr, f1, f2, rfl⟩ := sT hm h2
  rw [nI_add, pk_sub (by omega), hm.1] at h3
  have := (nI_leI (by omega) (by omega)).mp h3.2
  exact ⟨fr, ct, f1, c1, c2, by omega, rfl, rfl⟩
theorem grp_in {fr ct n : Nat} (hf : 1 ≤ fr) (hfc : fr + ct ≤ n + 1) : ∀ u ∈ grp fr ct, 1 ≤ u ∧ u ≤ n := by
  intro u hu
  obtain ⟨j, hj, rfl⟩ := List.mem_map.mp hu
  rw [List.mem_range] at hj
  omega
set_option maxHeartbeats 2000000 in
theorem k_all (d : Nat) (G : GH) (A : AS) (n F : Nat) (K : MS) (L : KL) (v q : Int32) (I : MS → Nat → KL → Prop) (E : MS × Nat) (hR : KR Y G A n F K L) (hm : mdK K n n)  (hO : (igB K v q = true) → n < 200 → OpOk n (mkK K (n + 1) (beg n (nI 8) (nI 0) (nI 0)) (grp v.toNatClampNeg q.toNatClampNeg)) F (upLt L (n + 1) (hgN L (n + 1) (grp v.toNatClampNeg q.toNatClampNeg))) I E) : Cd l yX8_all cX8_all 3 (some .int) (d + 11) (110 + (PhK K F - PhK E.1 E.2)) (110 + (PhK K F - PhK E.1 E.2)) Y [.inr (.inr (some (A 0 0))), .inl v, .inl q] G (fun r G' => (¬ (igB K v q = true) ∧ r = some (.inl (-1)) ∧ KR Y G' A n F K L) ∨ ((igB K v q = true) ∧ n = 200 ∧ r = some (.inl (-2)) ∧ KR Y G' A n F K L) ∨ ((igB K v q = true) ∧ n < 200 ∧ r = some (.inl (nI (n + 1))) ∧ ∃ A', KR Y G' A' (n + 1) E.2 E.1 (upLt L (n + 1) (hgN L (n + 1) (grp v.toNatClampNeg q.toNatClampNeg))) ∧ A' 0 0 = A 0 0)) := by
  refine Ct.of (ini := False) (by decide +kernel) False.elim rfl (Nat.le_of_ble_eq_true rfl) ?_
  intro p e s m args below meth c C X
  have no : ¬ (igB K v q = true) → ∀ (x0 : Option AV), V p l e (RM (d + 11) (110 + (PhK K F - PhK E.1 E.2)) (110 + (PhK K F - PhK E.1 E.2))) s m args below meth c Y (GA G s.heap.size) (QM below args s (RM (d + 11) (110 + (PhK K F - PhK E.1 E.2)) (110 + (PhK K F - PhK E.1 E.2))) Y G (fun r G' => (¬ (igB K v q = true) ∧ r = some (.inl (-1)) ∧ KR Y G' A n F K L) ∨ ((igB K v q = true) ∧ n = 200 ∧ r = some (.inl (-2)) ∧ KR Y G' A n F K L) ∨ ((igB K v q = true) ∧ n < 200 ∧ r = some (.inl (nI (n + 1))) ∧ ∃ A', KR Y G' A' (n + 1) E.2 E.1 (upLt L (n + 1) (hgN L (n + 1) (grp v.toNatClampNeg q.toNatClampNeg))) ∧ A' 0 0 = A 0 0))) 9 G 0 0 [some (.inr (.inr (some (A 0 0)))), some (.inl v), some (.inl q)] [] := by
    intro h x0
    refine b_X8_all_9.go C ⟨trivial, ?_⟩
    exact V_iret C X d_X8_all_10 (Nat.zero_le _) (Nat.zero_le _) (Or.inl ⟨h, rfl, hR⟩)
  refine b_X8_all_0.go C ⟨trivial, ?_⟩
  refine k_X8_all_3.go C X (k_isGroup (d + 8) G A n F K L v q hR hm) (rest := []) rfl rfl rfl (fun _ => ⟨_, _, _, rfl, hR.mn, by decide⟩) (lb rfl) (Rq.of (by omega) (by decide) (Nat.zero_le _) (Nat.zero_le _)) ?_
  rintro r G9 ⟨h9, rfl⟩
  replace h9 := h9.symm
  subst h9
  refine b_X8_all_6.go C ⟨fun h6 => ⟨trivial, ?_⟩, fun h6 => ⟨trivial, ?_⟩⟩
  rotate_left
  · exact no (fun z => by have z1 : igB K v q = true := z; rw [show igB K v q = false from bI_0 h6] at z1; cases z1) none
  have h6 : igB K v q = true := bI_1 h6
  obtain ⟨fr, ct, g1, g2, g3, g4, rfl, rfl⟩ := ig_of hm h6
  have h2000 := hm.2.2.1
  have ej : (nI fr).toNatClampNeg = fr := nI_clamp (by omega)
  have ei : (nI ct).toNatClampNeg = ct := nI_clamp (by omega)
  rw [ej, ei] at hO no ⊢
  have hls := grp_in (n := n) g1 g4
  have hl24 : (grp fr ct).length ≤ 24 := by rw [grp_l]; exact g3
  have hok : igB K (nI fr) (nI ct) = true := h6
  have hn := hm.2.2.1
  refine b_X8_all_11.go C ⟨by show _ ≤ 110 + (PhK K F - PhK E.1 E.2); omega, by show _ ≤ 110 + (PhK K F - PhK E.1 E.2); omega, fun q hq => ?_⟩
  have R1 := hR.fresh hq (stC false (fun _ => 0) (fun _ => none))
  refine ⟨_, R1.mn, nI (n + 1), (congrArg (· + nI 1) hm.1).trans (nI_1 _), trivial, ?_⟩
  refine kx_all_27.go C X (k_groupOf (d + 10) _ A n F K L fr ct R1 hm g1 g3 g4) (rest := [.inl (nI 8), .inl (nI (n + 1)), .inr (.inr (some q)), .inr (.inr (some q)), .inr (.inr (some (A 0 0)))]) rfl rfl rfl (fun _ => ⟨_, _, _, rfl, R1.mn, by decide⟩) rfl (lb rfl) (Rq.of (by omega) (by decide) (by show _ ≤ 110 + (PhK K F - PhK E.1 E.2); omega) (by show _ ≤ 110 + (PhK K F - PhK E.1 E.2); omega)) ?_
  rintro r G9 ⟨qi, hqi, rfl, rfl⟩
  have d1 : q ≠ qi := ne_none up_eq hqi
  have hqi' : G qi = none := (up_ne (Ne.symm d1)).symm.trans hqi
  have R2 := R1.fresh hqi (inA A (grp fr ct))
  refine b_X8_all_30.go C ⟨trivial, ?_⟩
  refine k_X8_all_32.go C X (k_StageInit d _ A n F K L q qi (n + 1) false (fun _ => 0) (fun _ => none) (nI 8) (nI 0) (nI 0) (grp fr ct) R2 ((up_ne d1).trans up_eq) (oth_none hR hq) up_eq hls hl24 (by omega)) (rest := [.inr (.inr (some q)), .inr (.inr (some (A 0 0)))]) rfl rfl rfl (fun _ => ⟨_, _, _, rfl, (up_ne d1).trans up_eq, by decide⟩) (lb rfl) (Rq.of (by omega) (by decide) (by show _ ≤ 110 + (PhK K F - PhK E.1 E.2); omega) (by show _ ≤ 110 + (PhK K F - PhK E.1 E.2); omega)) ?_
  rintro r G8 ⟨rfl, qh, hqh, rfl⟩
  have d3 : qi ≠ qh := ne_none up_eq hqh
  have hqh1 := (up_ne (Ne.symm d3)).symm.trans hqh
  have d2 : q ≠ qh := ne_none up_eq hqh1
  have hqh' : G qh = none := (up_ne (Ne.symm d2)).symm.trans hqh1
  obtain ⟨R3, hold⟩ := hR.mkS hn (c0 := some (stC false (fun _ => 0) (fun _ => none))) (grp fr ct) (hgN L (n + 1) (grp fr ct)) hls hl24 hq hqi' hqh' d1 d2 d3 (beg n (nI 8) (nI 0) (nI 0)) (show decide (nI 1 ≤ nI 8 ∧ nI 8 ≤ nI 4) = false by decide +kernel)
  have eA0 : nwA A (n + 1) (Q3 q qi qh 0 0) 0 0 = A 0 0 := nwA_n (by omega)
  have eA1 : nwA A (n + 1) (Q3 q qi qh 0 0) 1 (n + 1) = q := nwA_s (Or.inl rfl)
  have e0 : mkK K (n + 1) (beg n (nI 8) (nI 0) (nI 0)) (grp fr ct) 0 0 = nI n := (stg_o (by omega) (by omega) (by omega) (by omega)).trans hm.1
  have e10 : mkK K (n + 1) (beg n (nI 8) (nI 0) (nI 0)) (grp fr ct) 10 (n + 1) = nI (n + 1) := by unfold mkK; rw [stg_s (by omega) (by decide) (by decide), if_neg (by decide), if_neg (by decide), if_neg (by decide)]; rfl
  have eph : PhK (mkK K (n + 1) (beg n (nI 8) (nI 0) (nI 0)) (grp fr ct)) F = PhK K F := PhK_stg (by omega)
  by_cases h200 : n = 200
  · have ko := k_openF (l := l) d _ _ (n + 1) F _ _ q R3 (e0.trans (by rw [h200]))
    rw [eA0] at ko
    refine k_X8_all_35.go C X ko (rest := []) rfl rfl rfl (fun _ => ⟨_, _, _, rfl, by have := R3.mn; rw [eA0] at this; exact this, by decide⟩) (lb rfl) (Rq.of (by omega) (by decide) (by show _ ≤ 110 + (PhK K F - PhK E.1 E.2); omega) (by show _ ≤ 110 + (PhK K F - PhK E.1 E.2); omega)) ?_
    rintro r G7 ⟨rfl, h7⟩
    replace h7 := h7.symm
    subst h7
    exact V_iret C X d_X8_all_38 (by show _ ≤ 110 + (PhK K F - PhK E.1 E.2); omega) (by show _ ≤ 110 + (PhK K F - PhK E.1 E.2); omega) (Or.inr (Or.inl ⟨hok, h200, rfl, hR.hold hold⟩))
  · obtain ⟨o1, o2, o3, o4, o5, o6⟩ := hO hok (by omega)
    have ko := k_open (l := l) d _ _ F _ _ n I o1 R3 e0 o2 (by omega) e10 o3 o4 E o5 o6
    rw [eA0, eA1, eph] at ko
    refine k_X8_all_35.go C X ko (rest := []) rfl rfl rfl (fun _ => ⟨_, _, _, rfl, by have := R3.mn; rw [eA0] at this; exact this, by decide⟩) (lb rfl) (Rq.of (by omega) (by decide) (by show _ ≤ 110 + (PhK K F - PhK E.1 E.2); omega) (by show _ ≤ 110 + (PhK K F - PhK E.1 E.2); omega)) ?_
    rintro r G7 ⟨rfl, A7, R7, hA7⟩
    exact V_iret C X d_X8_all_38 (by show _ ≤ 110 + (PhK K F - PhK E.1 E.2); omega) (by show _ ≤ 110 + (PhK K F - PhK E.1 E.2); omega) (Or.inr (Or.inr ⟨hok, by omega, rfl, A7, R7, hA7.kt.trans eA0⟩))
def anyP (K : MS) (v q w : Int32) : Prop := igB K v q = true ∧ (nI 1 ≤ w ∧ w ≤ q)
set_option maxHeartbeats 2000000 in
theorem k_any (d : Nat) (G : GH) (A : AS) (n F : Nat) (K : MS) (L : KL) (v q w : Int32) (I : MS → Nat → KL → Prop) (E : MS × Nat) (hR : KR Y G A n F K L) (hm : mdK K n n)  (hO : anyP K v q w → n < 200 → OpOk n (mkK K (n + 1) (beg n (nI 9) (nI 0) (w)) (grp v.toNatClampNeg q.toNatClampNeg)) F (upLt L (n + 1) (hgN L (n + 1) (grp v.toNatClampNeg q.toNatClampNeg))) I E) : Cd l yX8_any cX8_any 4 (some .int) (d + 11) (110 + (PhK K F - PhK E.1 E.2)) (110 + (PhK K F - PhK E.1 E.2)) Y [.inr (.inr (some (A 0 0))), .inl v, .inl q, .inl w] G (fun r G' => (¬ anyP K v q w ∧ r = some (.inl (-1)) ∧ KR Y G' A n F K L) ∨ (anyP K v q w ∧ n = 200 ∧ r = some (.inl (-2)) ∧ KR Y G' A n F K L) ∨ (anyP K v q w ∧ n < 200 ∧ r = some (.inl (nI (n + 1))) ∧ ∃ A', KR Y G' A' (n + 1) E.2 E.1 (upLt L (n + 1) (hgN L (n + 1) (grp v.toNatClampNeg q.toNatClampNeg))) ∧ A' 0 0 = A 0 0)) := by
  refine Ct.of (ini := False) (by decide +kernel) False.elim rfl (Nat.le_of_ble_eq_true rfl) ?_
  intro p e s m args below meth c C X
  have no : ¬ anyP K v q w → ∀ (x0 : Option AV), V p l e (RM (d + 11) (110 + (PhK K F - PhK E.1 E.2)) (110 + (PhK K F - PhK E.1 E.2))) s m args below meth c Y (GA G s.heap.size) (QM below args s (RM (d + 11) (110 + (PhK K F - PhK E.1 E.2)) (110 + (PhK K F - PhK E.1 E.2))) Y G (fun r G' => (¬ anyP K v q w ∧ r = some (.inl (-1)) ∧ KR Y G' A n F K L) ∨ (anyP K v q w ∧ n = 200 ∧ r = some (.inl (-2)) ∧ KR Y G' A n F K L) ∨ (anyP K v q w ∧ n < 200 ∧ r = some (.inl (nI (n + 1))) ∧ ∃ A', KR Y G' A' (n + 1) E.2 E.1 (upLt L (n + 1) (hgN L (n + 1) (grp v.toNatClampNeg q.toNatClampNeg))) ∧ A' 0 0 = A 0 0))) 18 G 0 0 [some (.inr (.inr (some (A 0 0)))), some (.inl v), some (.inl q), some (.inl w)] [] := by
    intro h x0
    refine b_X8_any_18.go C ⟨trivial, ?_⟩
    exact V_iret C X d_X8_any_19 (Nat.zero_le _) (Nat.zero_le _) (Or.inl ⟨h, rfl, hR⟩)
  refine b_X8_any_0.go C ⟨trivial, ?_⟩
  refine k_X8_any_3.go C X (k_isGroup (d + 8) G A n F K L v q hR hm) (rest := []) rfl rfl rfl (fun _ => ⟨_, _, _, rfl, hR.mn, by decide⟩) (lb rfl) (Rq.of (by omega) (by decide) (Nat.zero_le _) (Nat.zero_le _)) ?_
  rintro r G9 ⟨h9, rfl⟩
  replace h9 := h9.symm
  subst h9
  refine b_X8_any_6.go C ⟨fun h6 => ⟨trivial, ?_⟩, fun h6 => ⟨trivial, ?_⟩⟩
  · exact no (fun z => by have z1 : igB K v q = true := z.1; rw [show igB K v q = false from bI_0 h6] at z1; cases z1) none
  have h6 : igB K v q = true := bI_1 h6
  refine b_X8_any_9.go C ⟨trivial, ?_⟩
  refine k_X8_any_12.go C X (c_isWithin (d + 10) G w (nI 1) q) (rest := []) rfl rfl rfl (fun h => absurd rfl h) (lb rfl) (Rq.of (by omega) (by decide) (Nat.zero_le _) (Nat.zero_le _)) ?_
  rintro r G9 ⟨h9, rfl⟩
  replace h9 := h9.symm
  subst h9
  refine b_X8_any_15.go C ⟨fun h15 => ⟨trivial, ?_⟩, fun h15 => ⟨trivial, ?_⟩⟩
  rotate_left
  · exact no (fun z => wi_0 h15 z.2) none
  have h15 := wi_1 h15
  obtain ⟨fr, ct, g1, g2, g3, g4, rfl, rfl⟩ := ig_of hm h6
  have h2000 := hm.2.2.1
  have ej : (nI fr).toNatClampNeg = fr := nI_clamp (by omega)
  have ei : (nI ct).toNatClampNeg = ct := nI_clamp (by omega)
  rw [ej, ei] at hO no ⊢
  have hls := grp_in (n := n) g1 g4
  have hl24 : (grp fr ct).length ≤ 24 := by rw [grp_l]; exact g3
  have hok : anyP K (nI fr) (nI ct) w := ⟨h6, h15⟩
  have hn := hm.2.2.1
  refine b_X8_any_20.go C ⟨by show _ ≤ 110 + (PhK K F - PhK E.1 E.2); omega, by show _ ≤ 110 + (PhK K F - PhK E.1 E.2); omega, fun q hq => ?_⟩
  have R1 := hR.fresh hq (stC false (fun _ => 0) (fun _ => none))
  refine ⟨_, R1.mn, nI (n + 1), (congrArg (· + nI 1) hm.1).trans (nI_1 _), trivial, ?_⟩
  refine kx_any_36.go C X (k_groupOf (d + 10) _ A n F K L fr ct R1 hm g1 g3 g4) (rest := [.inl (nI 9), .inl (nI (n + 1)), .inr (.inr (some q)), .inr (.inr (some q)), .inr (.inr (some (A 0 0)))]) rfl rfl rfl (fun _ => ⟨_, _, _, rfl, R1.mn, by decide⟩) rfl (lb rfl) (Rq.of (by omega) (by decide) (by show _ ≤ 110 + (PhK K F - PhK E.1 E.2); omega) (by show _ ≤ 110 + (PhK K F - PhK E.1 E.2); omega)) ?_
  rintro r G9 ⟨qi, hqi, rfl, rfl⟩
  have d1 : q ≠ qi := ne_none up_eq hqi
  have hqi' : G qi = none := (up_ne (Ne.symm d1)).symm.trans hqi
  have R2 := R1.fresh hqi (inA A (grp fr ct))
  refine b_X8_any_39.go C ⟨trivial, ?_⟩
  refine k_X8_any_41.go C X (k_StageInit d _ A n F K L q qi (n + 1) false (fun _ => 0) (fun _ => none) (nI 9) (nI 0) (w) (grp fr ct) R2 ((up_ne d1).trans up_eq) (oth_none hR hq) up_eq hls hl24 (by omega)) (rest := [.inr (.inr (some q)), .inr (.inr (some (A 0 0)))]) rfl rfl rfl (fun _ => ⟨_, _, _, rfl, (up_ne d1).trans up_eq, by decide⟩) (lb rfl) (Rq.of (by omega) (by decide) (by show _ ≤ 110 + (PhK K F - PhK E.1 E.2); omega) (by show _ ≤ 110 + (PhK K F - PhK E.1 E.2); omega)) ?_
  rintro r G8 ⟨rfl, qh, hqh, rfl⟩
  have d3 : qi ≠ qh := ne_none up_eq hqh
  have hqh1 := (up_ne (Ne.symm d3)).symm.trans hqh
  have d2 : q ≠ qh := ne_none up_eq hqh1
  have hqh' : G qh = none := (up_ne (Ne.symm d2)).symm.trans hqh1
  obtain ⟨R3, hold⟩ := hR.mkS hn (c0 := some (stC false (fun _ => 0) (fun _ => none))) (grp fr ct) (hgN L (n + 1) (grp fr ct)) hls hl24 hq hqi' hqh' d1 d2 d3 (beg n (nI 9) (nI 0) (w)) (show decide (nI 1 ≤ nI 9 ∧ nI 9 ≤ nI 4) = false by decide +kernel)
  have eA0 : nwA A (n + 1) (Q3 q qi qh 0 0) 0 0 = A 0 0 := nwA_n (by omega)
  have eA1 : nwA A (n + 1) (Q3 q qi qh 0 0) 1 (n + 1) = q := nwA_s (Or.inl rfl)
  have e0 : mkK K (n + 1) (beg n (nI 9) (nI 0) (w)) (grp fr ct) 0 0 = nI n := (stg_o (by omega) (by omega) (by omega) (by omega)).trans hm.1
  have e10 : mkK K (n + 1) (beg n (nI 9) (nI 0) (w)) (grp fr ct) 10 (n + 1) = nI (n + 1) := by unfold mkK; rw [stg_s (by omega) (by decide) (by decide), if_neg (by decide), if_neg (by decide), if_neg (by decide)]; rfl
  have eph : PhK (mkK K (n + 1) (beg n (nI 9) (nI 0) (w)) (grp fr ct)) F = PhK K F := PhK_stg (by omega)
  by_cases h200 : n = 200
  · have ko := k_openF (l := l) d _ _ (n + 1) F _ _ q R3 (e0.trans (by rw [h200]))
    rw [eA0] at ko
    refine k_X8_any_44.go C X ko (rest := []) rfl rfl rfl (fun _ => ⟨_, _, _, rfl, by have := R3.mn; rw [eA0] at this; exact this, by decide⟩) (lb rfl) (Rq.of (by omega) (by decide) (by show _ ≤ 110 + (PhK K F - PhK E.1 E.2); omega) (by show _ ≤ 110 + (PhK K F - PhK E.1 E.2); omega)) ?_
    rintro r G7 ⟨rfl, h7⟩
    replace h7 := h7.symm
    subst h7
    exact V_iret C X d_X8_any_47 (by show _ ≤ 110 + (PhK K F - PhK E.1 E.2); omega) (by show _ ≤ 110 + (PhK K F - PhK E.1 E.2); omega) (Or.inr (Or.inl ⟨hok, h200, rfl, hR.hold hold⟩))
  · obtain ⟨o1, o2, o3, o4, o5, o6⟩ := hO hok (by omega)
    have ko := k_open (l := l) d _ _ F _ _ n I o1 R3 e0 o2 (by omega) e10 o3 o4 E o5 o6
    rw [eA0, eA1, eph] at ko
    refine k_X8_any_44.go C X ko (rest := []) rfl rfl rfl (fun _ => ⟨_, _, _, rfl, by have := R3.mn; rw [eA0] at this; exact this, by decide⟩) (lb rfl) (Rq.of (by omega) (by decide) (by show _ ≤ 110 + (PhK K F - PhK E.1 E.2); omega) (by show _ ≤ 110 + (PhK K F - PhK E.1 E.2); omega)) ?_
    rintro r G7 ⟨rfl, A7, R7, hA7⟩
    exact V_iret C X d_X8_any_47 (by show _ ≤ 110 + (PhK K F - PhK E.1 E.2); omega) (by show _ ≤ 110 + (PhK K F - PhK E.1 E.2); omega) (Or.inr (Or.inr ⟨hok, by omega, rfl, A7, R7, hA7.kt.trans eA0⟩))
def limP (K : MS) (v w : Int32) : Prop := (nI 1 ≤ v ∧ v ≤ K 0 0) ∧ (nI 1 ≤ w ∧ w ≤ nI 400)
set_option maxHeartbeats 2000000 in
theorem k_limit (d : Nat) (G : GH) (A : AS) (n F : Nat) (K : MS) (L : KL) (v w : Int32) (w0 : Nat) (I : MS → Nat → KL → Prop) (E : MS × Nat) (hR : KR Y G A n F K L) (hm : mdK K n n) (hw0 : K 2 0 = nI w0) (hw1 : w0 ≤ 10000) (hO : limP K v w → n < 200 → OpOk n (mkK K (n + 1) (beg n (nI 12) (nI 0) (K 2 0 + w)) [v.toNatClampNeg]) F (upLt (mrkL L (K 2 0 + w).toNatClampNeg) (n + 1) (hgN (mrkL L (K 2 0 + w).toNatClampNeg) (n + 1) [v.toNatClampNeg])) I E) : Cd l yX8_limit cX8_limit 5 (some .int) (d + 11) (110 + (PhK K F - PhK E.1 E.2)) (110 + (PhK K F - PhK E.1 E.2)) Y [.inr (.inr (some (A 0 0))), .inl v, .inl w] G (fun r G' => (¬ limP K v w ∧ r = some (.inl (-1)) ∧ KR Y G' A n F K L) ∨ (limP K v w ∧ n = 200 ∧ r = some (.inl (-2)) ∧ KR Y G' A n F K (mrkL L (K 2 0 + w).toNatClampNeg)) ∨ (limP K v w ∧ n < 200 ∧ r = some (.inl (nI (n + 1))) ∧ ∃ A', KR Y G' A' (n + 1) E.2 E.1 (upLt (mrkL L (K 2 0 + w).toNatClampNeg) (n + 1) (hgN (mrkL L (K 2 0 + w).toNatClampNeg) (n + 1) [v.toNatClampNeg])) ∧ A' 0 0 = A 0 0)) := by
  refine Ct.of (ini := False) (by decide +kernel) False.elim rfl (Nat.le_of_ble_eq_true rfl) ?_
  intro p e s m args below meth c C X
  have no : ¬ limP K v w → ∀ (x0 x1 : Option AV), V p l e (RM (d + 11) (110 + (PhK K F - PhK E.1 E.2)) (110 + (PhK K F - PhK E.1 E.2))) s m args below meth c Y (GA G s.heap.size) (QM below args s (RM (d + 11) (110 + (PhK K F - PhK E.1 E.2)) (110 + (PhK K F - PhK E.1 E.2))) Y G (fun r G' => (¬ limP K v w ∧ r = some (.inl (-1)) ∧ KR Y G' A n F K L) ∨ (limP K v w ∧ n = 200 ∧ r = some (.inl (-2)) ∧ KR Y G' A n F K (mrkL L (K 2 0 + w).toNatClampNeg)) ∨ (limP K v w ∧ n < 200 ∧ r = some (.inl (nI (n + 1))) ∧ ∃ A', KR Y G' A' (n + 1) E.2 E.1 (upLt (mrkL L (K 2 0 + w).toNatClampNeg) (n + 1) (hgN (mrkL L (K 2 0 + w).toNatClampNeg) (n + 1) [v.toNatClampNeg])) ∧ A' 0 0 = A 0 0))) 21 G 0 0 [some (.inr (.inr (some (A 0 0)))), some (.inl v), some (.inl w), x0, x1] [] := by
    intro h x0 x1
    refine b_X8_limit_21.go C ⟨trivial, ?_⟩
    exact V_iret C X d_X8_limit_22 (Nat.zero_le _) (Nat.zero_le _) (Or.inl ⟨h, rfl, hR⟩)
  refine b_X8_limit_0.go C ⟨trivial, ?_⟩
  refine k_X8_limit_2.go C X (k_find (d + 9) G A n F K L v n hR hm) (rest := []) rfl rfl rfl (fun _ => ⟨_, _, _, rfl, hR.mn, by decide⟩) (lb rfl) (Rq.of (by omega) (by decide) (Nat.zero_le _) (Nat.zero_le _)) ?_
  rintro r G9 ⟨h9, rfl⟩
  replace h9 := h9.symm
  subst h9
  by_cases hs : nI 1 ≤ v ∧ v ≤ K 0 0
  rotate_left
  · rw [if_neg hs]
    refine b_X8_limit_5.go C ⟨fun _ => ⟨trivial, ?_⟩, fun _ h => by cases h⟩
    exact no (fun z => hs z.1) _ _
  have hs0 := hs
  obtain ⟨j, hj1, hj2, rfl⟩ := sT hm hs
  have h2000 := hm.2.2.1
  have ej : (nI j).toNatClampNeg = j := nI_clamp (by omega)
  rw [ej] at hO no ⊢
  rw [if_pos hs0]
  refine b_X8_limit_5.go C ⟨fun h => (by cases h), fun _ _ => ⟨trivial, ?_⟩⟩
  refine b_X8_limit_10.go C ⟨trivial, ?_⟩
  refine k_X8_limit_15.go C X (c_isWithin (d + 10) G w (nI 1) (nI 400)) (rest := []) rfl rfl rfl (fun h => absurd rfl h) (lb rfl) (Rq.of (by omega) (by decide) (Nat.zero_le _) (Nat.zero_le _)) ?_
  rintro r G9 ⟨h9, rfl⟩
  replace h9 := h9.symm
  subst h9
  refine b_X8_limit_18.go C ⟨fun h18 => ⟨trivial, ?_⟩, fun h18 => ⟨trivial, ?_⟩⟩
  rotate_left
  · exact no (fun z => wi_0 h18 z.2) _ _
  have h18 := wi_1 h18
  have hok : limP K (nI j) w := ⟨hs0, h18⟩
  obtain ⟨x, x1, x2, x3⟩ := in_of (a := 1) (b := 400) (by decide) h18 (by decide)
  have edu : K 2 0 + w = nI (w0 + x) := by rw [hw0, x3, nI_add]
  have hls : ∀ u ∈ [j], 1 ≤ u ∧ u ≤ n := fun u hu => by rw [List.mem_singleton.mp hu]; exact ⟨hj1, hj2⟩
  have hl24 : [j].length ≤ 24 := by simp
  refine b_X8_limit_23.go C ⟨_, hR.mn, _, rfl, _, hR.mn, trivial, ?_⟩
  refine k_X8_limit_37.go C X (k_mark (d + 9) G A n F K L (w0 + x) hR (by omega)) (rest := []) (show _ = _ from congrArg (fun z : Int32 => ([.inl z, .inr (.inr (some (A 15 0)))] : List AV)) edu) rfl rfl (fun _ => ⟨_, _, _, rfl, hR.ag, by decide⟩) (lb rfl) (Rq.of (by omega) (by decide) (Nat.zero_le _) (Nat.zero_le _)) ?_
  rintro r G0 ⟨rfl, hR9⟩
  have emk : mrkL L (w0 + x) = mrkL L (K 2 0 + w).toNatClampNeg := by rw [edu, nI_clamp (by omega)]
  rw [emk] at hR9
  have hn := hm.2.2.1
  refine b_X8_limit_40.go C ⟨by show _ ≤ 110 + (PhK K F - PhK E.1 E.2); omega, by show _ ≤ 110 + (PhK K F - PhK E.1 E.2); omega, fun q hq => ?_⟩
  have R1 := hR9.fresh hq (stC false (fun _ => 0) (fun _ => none))
  refine ⟨_, R1.mn, nI (n + 1), (congrArg (· + nI 1) hm.1).trans (nI_1 _), trivial, ?_⟩
  refine kx_limit_54.go C X (k_inputsOf1 (d + 10) _ A n F K (mrkL L (K 2 0 + w).toNatClampNeg) j R1 ⟨hj1, hj2⟩) (rest := [.inl (nI 12), .inl (nI (n + 1)), .inr (.inr (some q)), .inr (.inr (some q)), .inr (.inr (some (A 0 0)))]) rfl rfl rfl (fun h => absurd rfl h) rfl (lb rfl) (Rq.of (by omega) (by decide) (by show _ ≤ 110 + (PhK K F - PhK E.1 E.2); omega) (by show _ ≤ 110 + (PhK K F - PhK E.1 E.2); omega)) ?_
  rintro r G9 ⟨qi, hqi, rfl, rfl⟩
  have d1 : q ≠ qi := ne_none up_eq hqi
  have hqi' : G0 qi = none := (up_ne (Ne.symm d1)).symm.trans hqi
  have R2 := R1.fresh hqi (inA A [j])
  refine b_X8_limit_57.go C ⟨trivial, ?_⟩
  refine k_X8_limit_60.go C X (k_StageInit d _ A n F K (mrkL L (K 2 0 + w).toNatClampNeg) q qi (n + 1) false (fun _ => 0) (fun _ => none) (nI 12) (nI 0) (K 2 0 + w) [j] R2 ((up_ne d1).trans up_eq) (oth_none hR9 hq) up_eq hls hl24 (by omega)) (rest := [.inr (.inr (some q)), .inr (.inr (some (A 0 0)))]) rfl rfl rfl (fun _ => ⟨_, _, _, rfl, (up_ne d1).trans up_eq, by decide⟩) (lb rfl) (Rq.of (by omega) (by decide) (by show _ ≤ 110 + (PhK K F - PhK E.1 E.2); omega) (by show _ ≤ 110 + (PhK K F - PhK E.1 E.2); omega)) ?_
  rintro r G8 ⟨rfl, qh, hqh, rfl⟩
  have d3 : qi ≠ qh := ne_none up_eq hqh
  have hqh1 := (up_ne (Ne.symm d3)).symm.trans hqh
  have d2 : q ≠ qh := ne_none up_eq hqh1
  have hqh' : G0 qh = none := (up_ne (Ne.symm d2)).symm.trans hqh1
  obtain ⟨R3, hold⟩ := hR9.mkS hn (c0 := some (stC false (fun _ => 0) (fun _ => none))) [j] (hgN (mrkL L (K 2 0 + w).toNatClampNeg) (n + 1) [j]) hls hl24 hq hqi' hqh' d1 d2 d3 (beg n (nI 12) (nI 0) (K 2 0 + w)) (show decide (nI 1 ≤ nI 12 ∧ nI 12 ≤ nI 4) = false by decide +kernel)
  have eA0 : nwA A (n + 1) (Q3 q qi qh 0 0) 0 0 = A 0 0 := nwA_n (by omega)
  have eA1 : nwA A (n + 1) (Q3 q qi qh 0 0) 1 (n + 1) = q := nwA_s (Or.inl rfl)
  have e0 : mkK K (n + 1) (beg n (nI 12) (nI 0) (K 2 0 + w)) [j] 0 0 = nI n := (stg_o (by omega) (by omega) (by omega) (by omega)).trans hm.1
  have e10 : mkK K (n + 1) (beg n (nI 12) (nI 0) (K 2 0 + w)) [j] 10 (n + 1) = nI (n + 1) := by unfold mkK; rw [stg_s (by omega) (by decide) (by decide), if_neg (by decide), if_neg (by decide), if_neg (by decide)]; rfl
  have eph : PhK (mkK K (n + 1) (beg n (nI 12) (nI 0) (K 2 0 + w)) [j]) F = PhK K F := PhK_stg (by omega)
  by_cases h200 : n = 200
  · have ko := k_openF (l := l) d _ _ (n + 1) F _ _ q R3 (e0.trans (by rw [h200]))
    rw [eA0] at ko
    refine k_X8_limit_63.go C X ko (rest := []) rfl rfl rfl (fun _ => ⟨_, _, _, rfl, by have := R3.mn; rw [eA0] at this; exact this, by decide⟩) (lb rfl) (Rq.of (by omega) (by decide) (by show _ ≤ 110 + (PhK K F - PhK E.1 E.2); omega) (by show _ ≤ 110 + (PhK K F - PhK E.1 E.2); omega)) ?_
    rintro r G7 ⟨rfl, h7⟩
    replace h7 := h7.symm
    subst h7
    exact V_iret C X d_X8_limit_66 (by show _ ≤ 110 + (PhK K F - PhK E.1 E.2); omega) (by show _ ≤ 110 + (PhK K F - PhK E.1 E.2); omega) (Or.inr (Or.inl ⟨hok, h200, rfl, hR9.hold hold⟩))
  · obtain ⟨o1, o2, o3, o4, o5, o6⟩ := hO hok (by omega)
    have ko := k_open (l := l) d _ _ F _ _ n I o1 R3 e0 o2 (by omega) e10 o3 o4 E o5 o6
    rw [eA0, eA1, eph] at ko
    refine k_X8_limit_63.go C X ko (rest := []) rfl rfl rfl (fun _ => ⟨_, _, _, rfl, by have := R3.mn; rw [eA0] at this; exact this, by decide⟩) (lb rfl) (Rq.of (by omega) (by decide) (by show _ ≤ 110 + (PhK K F - PhK E.1 E.2); omega) (by show _ ≤ 110 + (PhK K F - PhK E.1 E.2); omega)) ?_
    rintro r G7 ⟨rfl, A7, R7, hA7⟩
    exact V_iret C X d_X8_limit_66 (by show _ ≤ 110 + (PhK K F - PhK E.1 E.2); omega) (by show _ ≤ 110 + (PhK K F - PhK E.1 E.2); omega) (Or.inr (Or.inr ⟨hok, by omega, rfl, A7, R7, hA7.kt.trans eA0⟩))
end CN
