/-! the class: what is only read, and small changes -/
section CLV
variable {l : Launch} {Y : YT}
theorem sT {K : MS} {n : Nat} {v : Int32} (hm : mdK K n n) (h : nI 1 ≤ v ∧ v ≤ K 0 0) : ∃ j, 1 ≤ j ∧ j ≤ n ∧ v = nI j := in_of (by have := hm.2.2.1; omega) (hm.1 ▸ h) (by omega)
theorem k_now (d : Nat) (G : GH) (A : AS) (n F : Nat) (K : MS) (L : KL) (hR : KR Y G A n F K L) : Cd l yX8_now cX8_now 1 (some .int) d 0 0 Y [.inr (.inr (some (A 0 0)))] G (fun r G' => G' = G ∧ r = some (.inl (K 2 0))) := by
  refine Ct.of (ini := False) (by decide +kernel) False.elim rfl (Nat.le_of_ble_eq_true rfl) ?_
  intro p e s m args below meth c C X
  refine b_X8_now_0.go C ⟨_, hR.mn, trivial, ?_⟩
  exact V_iret C X d_X8_now_4 (Nat.zero_le _) (Nat.zero_le _) ⟨rfl, rfl⟩
theorem k_stages (d : Nat) (G : GH) (A : AS) (n F : Nat) (K : MS) (L : KL) (hR : KR Y G A n F K L) : Cd l yX8_stages cX8_stages 1 (some .int) d 0 0 Y [.inr (.inr (some (A 0 0)))] G (fun r G' => G' = G ∧ r = some (.inl (K 0 0))) := by
  refine Ct.of (ini := False) (by decide +kernel) False.elim rfl (Nat.le_of_ble_eq_true rfl) ?_
  intro p e s m args below meth c C X
  refine b_X8_stages_0.go C ⟨_, hR.mn, trivial, ?_⟩
  exact V_iret C X d_X8_stages_4 (Nat.zero_le _) (Nat.zero_le _) ⟨rfl, rfl⟩
theorem k_clearPlan (d : Nat) (G : GH) (A : AS) (n F : Nat) (K : MS) (L : KL) (hR : KR Y G A n F K L) : Cd l yX8_clearPlan cX8_clearPlan 2 (some .int) d 0 0 Y [.inr (.inr (some (A 0 0)))] G (fun r G' => KR Y G' A n F (up2 K 70 0 (nI 0)) L ∧ r = some (.inl (K 70 0))) := by
  refine Ct.of (ini := False) (by decide +kernel) False.elim rfl (Nat.le_of_ble_eq_true rfl) ?_
  intro p e s m args below meth c C X
  refine b_X8_clearPlan_0.go C ⟨_, hR.mn, _, hR.pl, _, hR.mn, _, hR.pl, trivial, ?_⟩
  exact V_iret C X d_X8_clearPlan_17 (Nat.zero_le _) (Nat.zero_le _) ⟨hR.l70 (nI 0), rfl⟩
def stateK (K : MS) (v : Int32) : Int32 := if nI 1 ≤ v ∧ v ≤ K 0 0 then K 16 v.toNatClampNeg else -1
theorem k_state (d : Nat) (G : GH) (A : AS) (n F : Nat) (K : MS) (L : KL) (v : Int32) (hR : KR Y G A n F K L) (hm : mdK K n n) : Cd l yX8_state cX8_state 3 (some .int) (d + 2) 0 0 Y [.inr (.inr (some (A 0 0))), .inl v] G (fun r G' => G' = G ∧ r = some (.inl (stateK K v))) := by
  refine Ct.of (ini := False) (by decide +kernel) False.elim rfl (Nat.le_of_ble_eq_true rfl) ?_
  intro p e s m args below meth c C X
  refine b_X8_state_0.go C ⟨trivial, ?_⟩
  refine k_X8_state_2.go C X (k_find (d) G A n F K L v n hR hm) (rest := []) rfl rfl rfl (fun _ => ⟨_, _, _, rfl, hR.mn, by decide⟩) (lb rfl) (Rq.of (by omega) (by decide) (Nat.le_refl _) (Nat.le_refl _)) ?_
  rintro r G9 ⟨h9, rfl⟩
  replace h9 := h9.symm
  subst h9
  by_cases hs : nI 1 ≤ v ∧ v ≤ K 0 0
  rotate_left
  · rw [if_neg hs]
    refine b_X8_state_5.go C ⟨fun _ h => (by cases h), fun _ => ⟨trivial, ?_⟩⟩
    refine b_X8_state_10.go C ⟨trivial, ?_⟩
    exact V_iret C X d_X8_state_18 (Nat.zero_le _) (Nat.zero_le _) ⟨rfl, by rw [stateK, if_neg hs]⟩
  have hs0 := hs
  obtain ⟨j, hj1, hj2, rfl⟩ := sT hm hs
  have h200 := hm.2.2.1
  have ej : (nI j).toNatClampNeg = j := nI_clamp (by omega)
  rw [if_pos hs0, ej]
  refine b_X8_state_5.go C ⟨fun _ _ => ⟨trivial, ?_⟩, fun h => by cases h⟩
  refine b_X8_state_14.go C ⟨_, _, hR.st ⟨hj1, hj2⟩, stC_ci _, trivial, ?_⟩
  exact V_iret C X d_X8_state_18 (Nat.zero_le _) (Nat.zero_le _) ⟨rfl, by rw [stateK, if_pos hs0, ej]; rfl⟩
def servedK (K : MS) (v : Int32) : Int32 := if nI 1 ≤ v ∧ v ≤ K 0 0 then K 22 v.toNatClampNeg else -1
theorem k_served (d : Nat) (G : GH) (A : AS) (n F : Nat) (K : MS) (L : KL) (v : Int32) (hR : KR Y G A n F K L) (hm : mdK K n n) : Cd l yX8_served cX8_served 3 (some .int) (d + 2) 0 0 Y [.inr (.inr (some (A 0 0))), .inl v] G (fun r G' => G' = G ∧ r = some (.inl (servedK K v))) := by
  refine Ct.of (ini := False) (by decide +kernel) False.elim rfl (Nat.le_of_ble_eq_true rfl) ?_
  intro p e s m args below meth c C X
  refine b_X8_served_0.go C ⟨trivial, ?_⟩
  refine k_X8_served_2.go C X (k_find (d) G A n F K L v n hR hm) (rest := []) rfl rfl rfl (fun _ => ⟨_, _, _, rfl, hR.mn, by decide⟩) (lb rfl) (Rq.of (by omega) (by decide) (Nat.le_refl _) (Nat.le_refl _)) ?_
  rintro r G9 ⟨h9, rfl⟩
  replace h9 := h9.symm
  subst h9
  by_cases hs : nI 1 ≤ v ∧ v ≤ K 0 0
  rotate_left
  · rw [if_neg hs]
    refine b_X8_served_5.go C ⟨fun _ h => (by cases h), fun _ => ⟨trivial, ?_⟩⟩
    refine b_X8_served_10.go C ⟨trivial, ?_⟩
    exact V_iret C X d_X8_served_18 (Nat.zero_le _) (Nat.zero_le _) ⟨rfl, by rw [servedK, if_neg hs]⟩
  have hs0 := hs
  obtain ⟨j, hj1, hj2, rfl⟩ := sT hm hs
  have h200 := hm.2.2.1
  have ej : (nI j).toNatClampNeg = j := nI_clamp (by omega)
  rw [if_pos hs0, ej]
  refine b_X8_served_5.go C ⟨fun _ _ => ⟨trivial, ?_⟩, fun h => by cases h⟩
  refine b_X8_served_14.go C ⟨_, _, hR.st ⟨hj1, hj2⟩, stC_ci _, trivial, ?_⟩
  exact V_iret C X d_X8_served_18 (Nat.zero_le _) (Nat.zero_le _) ⟨rfl, by rw [servedK, if_pos hs0, ej]; rfl⟩
def endK (K : MS) (v w : Int32) : Int32 := if (nI 1 ≤ v ∧ v ≤ K 0 0) ∧ (nI 0 ≤ w ∧ w ≤ nI 1) then (if nI 5 ≤ K 16 v.toNatClampNeg then (if w = 0 then K 19 v.toNatClampNeg else K 20 v.toNatClampNeg) else -3) else -1
theorem k_end (d : Nat) (G : GH) (A : AS) (n F : Nat) (K : MS) (L : KL) (v w : Int32) (hR : KR Y G A n F K L) (hm : mdK K n n) : Cd l yX8_end cX8_end 4 (some .int) (d + 2) 0 0 Y [.inr (.inr (some (A 0 0))), .inl v, .inl w] G (fun r G' => G' = G ∧ r = some (.inl (endK K v w))) := by
  refine Ct.of (ini := False) (by decide +kernel) False.elim rfl (Nat.le_of_ble_eq_true rfl) ?_
  intro p e s m args below meth c C X
  have no : ∀ o, ¬ ((nI 1 ≤ v ∧ v ≤ K 0 0) ∧ (nI 0 ≤ w ∧ w ≤ nI 1)) → V p l e (RM (d + 2) 0 0) s m args below meth c Y (GA G s.heap.size) (QM below args s (RM (d + 2) 0 0) Y G (fun r G' => G' = G ∧ r = some (.inl (endK K v w)))) 19 G 0 0 [some (.inr (.inr (some (A 0 0)))), some (.inl v), some (.inl w), o] [] := by
    intro o h
    refine b_X8_end_19.go C ⟨trivial, ?_⟩
    exact V_iret C X d_X8_end_20 (Nat.zero_le _) (Nat.zero_le _) ⟨rfl, by rw [endK, if_neg h]⟩
  refine b_X8_end_0.go C ⟨trivial, ?_⟩
  refine k_X8_end_2.go C X (k_find (d) G A n F K L v n hR hm) (rest := []) rfl rfl rfl (fun _ => ⟨_, _, _, rfl, hR.mn, by decide⟩) (lb rfl) (Rq.of (by omega) (by decide) (Nat.le_refl _) (Nat.le_refl _)) ?_
  rintro r G9 ⟨h9, rfl⟩
  replace h9 := h9.symm
  subst h9
  by_cases hs : nI 1 ≤ v ∧ v ≤ K 0 0
  rotate_left
  · rw [if_neg hs]
    refine b_X8_end_5.go C ⟨fun _ => ⟨trivial, ?_⟩, fun _ h => by cases h⟩
    exact no _ (fun z => hs z.1)
  have hs0 := hs
  obtain ⟨j, hj1, hj2, rfl⟩ := sT hm hs
  have h200 := hm.2.2.1
  have ej : (nI j).toNatClampNeg = j := nI_clamp (by omega)
  rw [if_pos hs0, ej]
  refine b_X8_end_5.go C ⟨fun h => (by cases h), fun _ _ => ⟨trivial, ?_⟩⟩
  refine b_X8_end_10.go C ⟨trivial, ?_⟩
  refine k_X8_end_13.go C X (c_isWithin (d + 1) G w (nI 0) (nI 1)) (rest := []) rfl rfl rfl (fun h => absurd rfl h) (lb rfl) (Rq.of (by omega) (by decide) (Nat.le_refl _) (Nat.le_refl _)) ?_
  rintro r G9 ⟨h9, rfl⟩
  replace h9 := h9.symm
  subst h9
  refine b_X8_end_16.go C ⟨fun h16 => ⟨trivial, ?_⟩, fun h16 => ⟨trivial, ?_⟩⟩
  rotate_left
  · exact no _ (fun z => wi_0 h16 z.2)
  have h16 := wi_1 h16
  refine b_X8_end_21.go C ⟨trivial, ?_⟩
  refine k_X8_end_22.go C X (c_hasEnded (d + 1) G (A 1 j) _ _ _ (hR.st ⟨hj1, hj2⟩)) (rest := []) rfl rfl rfl (fun _ => ⟨_, _, _, rfl, hR.st (by omega), stC_in _⟩) (lb rfl) (Rq.of (by omega) (by decide) (Nat.le_refl _) (Nat.le_refl _)) ?_
  rintro r G9 ⟨h9, rfl⟩
  replace h9 := h9.symm
  subst h9
  refine b_X8_end_25.go C ⟨fun h25 => ⟨trivial, ?_⟩, fun h25 => ⟨trivial, ?_⟩⟩
  rotate_left
  · have h25 : ¬ nI 5 ≤ K 16 j := wi_0 h25
    refine b_X8_end_28.go C ⟨trivial, ?_⟩
    exact V_iret C X d_X8_end_30 (Nat.zero_le _) (Nat.zero_le _) ⟨rfl, by rw [endK, if_pos ⟨hs0, h16⟩, ej, if_neg h25]⟩
  have h25 : nI 5 ≤ K 16 j := wi_1 h25
  refine b_X8_end_31.go C ⟨fun h31 => ⟨trivial, ?_⟩, fun h31 => ⟨trivial, ?_⟩⟩
  · refine b_X8_end_42.go C ⟨_, _, hR.st ⟨hj1, hj2⟩, stC_ci _, trivial, ?_⟩
    exact V_iret C X d_X8_end_46 (Nat.zero_le _) (Nat.zero_le _) ⟨rfl, by rw [endK, if_pos ⟨hs0, h16⟩, ej, if_pos h25, if_neg h31]; rfl⟩
  · refine b_X8_end_35.go C ⟨_, _, hR.st ⟨hj1, hj2⟩, stC_ci _, trivial, ?_⟩
    exact V_iret C X d_X8_end_46 (Nat.zero_le _) (Nat.zero_le _) ⟨rfl, by rw [endK, if_pos ⟨hs0, h16⟩, ej, if_pos h25, if_pos h31]; rfl⟩
def coOk (K : MS) (v w : Int32) : Prop := (nI 1 ≤ v ∧ v ≤ K 0 0) ∧ ¬ nI 5 ≤ K 16 v.toNatClampNeg ∧ (K 2 0 ≤ w ∧ w ≤ nI 10000)
theorem k_callOff (d : Nat) (G : GH) (A : AS) (n F : Nat) (K : MS) (L : KL) (v w : Int32) (w0 : Nat) (hR : KR Y G A n F K L) (hm : mdK K n n) (hw0 : K 2 0 = nI w0) (hw1 : w0 ≤ 10000) : Cd l yX8_callOff cX8_callOff 4 (some .int) (d + 2) 0 0 Y [.inr (.inr (some (A 0 0))), .inl v, .inl w] G (fun r G' => (coOk K v w ∧ r = some (.inl (nI 1)) ∧ KR Y G' A n F (up2 K 21 v.toNatClampNeg w) (mrkL L w.toNatClampNeg)) ∨ (¬ coOk K v w ∧ r = some (.inl (-1)) ∧ KR Y G' A n F K L)) := by
  refine Ct.of (ini := False) (by decide +kernel) False.elim rfl (Nat.le_of_ble_eq_true rfl) ?_
  intro p e s m args below meth c C X
  have no : ∀ o, ¬ coOk K v w → V p l e (RM (d + 2) 0 0) s m args below meth c Y (GA G s.heap.size) (QM below args s (RM (d + 2) 0 0) Y G (fun r G' => (coOk K v w ∧ r = some (.inl (nI 1)) ∧ KR Y G' A n F (up2 K 21 v.toNatClampNeg w) (mrkL L w.toNatClampNeg)) ∨ (¬ coOk K v w ∧ r = some (.inl (-1)) ∧ KR Y G' A n F K L))) 31 G 0 0 [some (.inr (.inr (some (A 0 0)))), some (.inl v), some (.inl w), o] [] := by
    intro o h
    refine b_X8_callOff_31.go C ⟨trivial, ?_⟩
    exact V_iret C X d_X8_callOff_32 (Nat.zero_le _) (Nat.zero_le _) (Or.inr ⟨h, rfl, hR⟩)
  refine b_X8_callOff_0.go C ⟨trivial, ?_⟩
  refine k_X8_callOff_2.go C X (k_find (d) G A n F K L v n hR hm) (rest := []) rfl rfl rfl (fun _ => ⟨_, _, _, rfl, hR.mn, by decide⟩) (lb rfl) (Rq.of (by omega) (by decide) (Nat.le_refl _) (Nat.le_refl _)) ?_
  rintro r G9 ⟨h9, rfl⟩
  replace h9 := h9.symm
  subst h9
  by_cases hs : nI 1 ≤ v ∧ v ≤ K 0 0
  rotate_left
  · rw [if_neg hs]
    refine b_X8_callOff_5.go C ⟨fun _ => ⟨trivial, ?_⟩, fun _ h => by cases h⟩
    exact no _ (fun z => hs z.1)
  have hs0 := hs
  obtain ⟨j, hj1, hj2, rfl⟩ := sT hm hs
  have h200 := hm.2.2.1
  have ej : (nI j).toNatClampNeg = j := nI_clamp (by omega)
  rw [if_pos hs0, ej]
  rw [ej] at no
  refine b_X8_callOff_5.go C ⟨fun h => (by cases h), fun _ _ => ⟨trivial, ?_⟩⟩
  refine b_X8_callOff_10.go C ⟨trivial, ?_⟩
  refine k_X8_callOff_11.go C X (c_hasEnded (d + 1) G (A 1 j) _ _ _ (hR.st ⟨hj1, hj2⟩)) (rest := []) rfl rfl rfl (fun _ => ⟨_, _, _, rfl, hR.st (by omega), stC_in _⟩) (lb rfl) (Rq.of (by omega) (by decide) (Nat.le_refl _) (Nat.le_refl _)) ?_
  rintro r G9 ⟨h9, rfl⟩
  replace h9 := h9.symm
  subst h9
  refine b_X8_callOff_14.go C ⟨fun h14 => ⟨trivial, ?_⟩, fun h14 => ⟨trivial, ?_⟩⟩
  · have h14 : nI 5 ≤ K 16 j := wi_1 h14
    exact no _ (fun z => by rw [coOk, ej] at z; exact z.2.1 h14)
  have h14 : ¬ nI 5 ≤ K 16 j := wi_0 h14
  refine b_X8_callOff_17.go C ⟨_, hR.mn, trivial, ?_⟩
  refine k_X8_callOff_25.go C X (c_isWithin (d + 1) G w (K 2 0) (nI 10000)) (rest := []) rfl rfl rfl (fun h => absurd rfl h) (lb rfl) (Rq.of (by omega) (by decide) (Nat.le_refl _) (Nat.le_refl _)) ?_
  rintro r G9 ⟨h9, rfl⟩
  replace h9 := h9.symm
  subst h9
  refine b_X8_callOff_28.go C ⟨fun h28 => ⟨trivial, ?_⟩, fun h28 => ⟨trivial, ?_⟩⟩
  rotate_left
  · exact no _ (fun z => wi_0 h28 z.2.2)
  have h28 := wi_1 h28
  obtain ⟨x, x1, x2, rfl⟩ := in_of (by omega) (hw0 ▸ h28) (by omega)
  have hok : coOk K (nI j) (nI x) := ⟨hs0, by rw [ej]; exact h14, h28⟩
  have R1 := hR.pS (i := j) ⟨hj1, hj2⟩ 11 (nI x) rfl
  refine b_X8_callOff_33.go C ⟨_, _, hR.st ⟨hj1, hj2⟩, stC_ci _, _, R1.mn, trivial, ?_⟩
  refine k_X8_callOff_43.go C X (k_mark d _ A n F _ L x R1 (by omega)) (rest := []) rfl rfl rfl (fun _ => ⟨_, _, _, rfl, R1.ag, by decide⟩) (lb rfl) (Rq.of (by omega) (by decide) (Nat.le_refl _) (Nat.le_refl _)) ?_
  rintro r G9 ⟨rfl, R2⟩
  refine b_X8_callOff_46.go C ⟨trivial, ?_⟩
  exact V_iret C X d_X8_callOff_47 (Nat.zero_le _) (Nat.zero_le _) (Or.inl ⟨hok, rfl, by rw [nI_clamp (by omega)]; exact R2⟩)
def plOkK (K : MS) (u v w : Int32) : Bool := decide ((nI 1 ≤ u ∧ u ≤ K 0 0) ∧ isWK K u.toNatClampNeg = true ∧ (nI 1 ≤ v ∧ v ≤ nI 6) ∧ (nI 0 ≤ w ∧ w ≤ nI 15))
def plnKK (K : MS) (u v w : Int32) : MS := if plOkK K u v w = true then putK K u v w else K
def plnKC (K : MS) (u v w : Int32) : Int32 := if plOkK K u v w = true then (if putB K u v = true then putK K u v w 70 0 else -2) else -1
theorem k_plan (d : Nat) (G : GH) (A : AS) (n F : Nat) (K : MS) (L : KL) (u v w : Int32) (hR : KR Y G A n F K L) (hm : mdK K n n) (hp : plK K) : Cd l yX8_plan cX8_plan 4 (some .int) (d + 2) 0 0 Y [.inr (.inr (some (A 0 0))), .inl u, .inl v, .inl w] G (fun r G' => KR Y G' A n F (plnKK K u v w) L ∧ r = some (.inl (plnKC K u v w))) := by
  refine Ct.of (ini := False) (by decide +kernel) False.elim rfl (Nat.le_of_ble_eq_true rfl) ?_
  intro p e s m args below meth c C X
  have no : plOkK K u v w = false → V p l e (RM (d + 2) 0 0) s m args below meth c Y (GA G s.heap.size) (QM below args s (RM (d + 2) 0 0) Y G (fun r G' => KR Y G' A n F (plnKK K u v w) L ∧ r = some (.inl (plnKC K u v w)))) 31 G 0 0 [some (.inr (.inr (some (A 0 0)))), some (.inl u), some (.inl v), some (.inl w)] [] := by
    intro h
    refine b_X8_plan_31.go C ⟨trivial, ?_⟩
    exact V_iret C X d_X8_plan_32 (Nat.zero_le _) (Nat.zero_le _) ⟨by rw [plnKK, if_neg (by rw [h]; decide)]; exact hR, by rw [plnKC, if_neg (by rw [h]; decide)]⟩
  refine b_X8_plan_0.go C ⟨trivial, ?_⟩
  refine k_X8_plan_2.go C X (k_find (d) G A n F K L u n hR hm) (rest := []) rfl rfl rfl (fun _ => ⟨_, _, _, rfl, hR.mn, by decide⟩) (lb rfl) (Rq.of (by omega) (by decide) (Nat.le_refl _) (Nat.le_refl _)) ?_
  rintro r G9 ⟨h9, rfl⟩
  replace h9 := h9.symm
  subst h9
  by_cases hs : nI 1 ≤ u ∧ u ≤ K 0 0
  rotate_left
  · rw [if_neg hs]
    refine b_X8_plan_5.go C ⟨nI 0, ⟨fun _ => ⟨trivial, ?_⟩, fun h => absurd nI_0 h⟩, Or.inl ⟨rfl, nI_0⟩⟩
    exact no (decide_eq_false (fun z => hs z.1))
  have hs0 := hs
  obtain ⟨j, hj1, hj2, rfl⟩ := sT hm hs
  have h200 := hm.2.2.1
  have ej : (nI j).toNatClampNeg = j := nI_clamp (by omega)
  rw [if_pos hs0, ej]
  by_cases hw : isWK K j = true
  rotate_left
  · have hw : isWK K j = false := by simpa using hw
    refine b_X8_plan_5.go C ⟨nI 0, ⟨fun _ => ⟨trivial, ?_⟩, fun h => absurd nI_0 h⟩, Or.inr ⟨_, _, rfl, Or.inl ⟨hR.sg ⟨hj1, hj2⟩ hw, by decide +kernel⟩⟩⟩
    exact no (decide_eq_false (fun z => by rw [ej, hw] at z; exact absurd z.2.1 (by decide)))
  refine b_X8_plan_5.go C ⟨nI 1, ⟨fun h => absurd h (by decide +kernel), fun _ => ⟨trivial, ?_⟩⟩, (Or.inr ⟨_, _, rfl, Or.inr ⟨hR.wk ⟨hj1, hj2⟩ hw, by decide +kernel⟩⟩)⟩
  refine b_X8_plan_11.go C ⟨trivial, ?_⟩
  refine k_X8_plan_15.go C X (c_isWithin (d + 1) G v (nI 1) (nI 6)) (rest := []) rfl rfl rfl (fun h => absurd rfl h) (lb rfl) (Rq.of (by omega) (by decide) (Nat.le_refl _) (Nat.le_refl _)) ?_
  rintro r G9 ⟨h9, rfl⟩
  replace h9 := h9.symm
  subst h9
  refine b_X8_plan_18.go C ⟨fun h18 => ⟨trivial, ?_⟩, fun h18 => ⟨trivial, ?_⟩⟩
  · exact no (decide_eq_false (fun z => wi_0 h18 z.2.2.1))
  have h18 := wi_1 h18
  refine b_X8_plan_21.go C ⟨trivial, ?_⟩
  refine k_X8_plan_25.go C X (c_isWithin (d + 1) G w (nI 0) (nI 15)) (rest := []) rfl rfl rfl (fun h => absurd rfl h) (lb rfl) (Rq.of (by omega) (by decide) (Nat.le_refl _) (Nat.le_refl _)) ?_
  rintro r G9 ⟨h9, rfl⟩
  replace h9 := h9.symm
  subst h9
  refine b_X8_plan_28.go C ⟨fun h28 => ⟨trivial, ?_⟩, fun h28 => ⟨trivial, ?_⟩⟩
  rotate_left
  · exact no (decide_eq_false (fun z => wi_0 h28 z.2.2.2))
  have h28 := wi_1 h28
  have hok : plOkK K (nI j) v w = true := decide_eq_true ⟨hs0, by rw [ej]; exact hw, h18, h28⟩
  refine b_X8_plan_33.go C ⟨_, hR.mn, trivial, ?_⟩
  refine k_X8_plan_40.go C X (k_put d G A n F K L (nI j) v w hR hp) (rest := []) rfl rfl rfl (fun _ => ⟨_, _, _, rfl, hR.pl, by decide⟩) (lb rfl) (Rq.of (by omega) (by decide) (Nat.le_refl _) (Nat.le_refl _)) ?_
  rintro r G9 ⟨R9, rfl⟩
  refine b_X8_plan_43.go C ⟨fun h43 => ⟨trivial, ?_⟩, fun h43 => ⟨trivial, ?_⟩⟩
  · have h43 := bI_0 h43
    refine b_X8_plan_56.go C ⟨trivial, ?_⟩
    exact V_iret C X d_X8_plan_58 (Nat.zero_le _) (Nat.zero_le _) ⟨by rw [plnKK, if_pos hok]; exact R9, by rw [plnKC, if_pos hok, if_neg (by rw [h43]; decide)]⟩
  · have h43 := bI_1 h43
    refine b_X8_plan_46.go C ⟨_, R9.mn, _, R9.pl, trivial, ?_⟩
    exact V_iret C X d_X8_plan_58 (Nat.zero_le _) (Nat.zero_le _) ⟨by rw [plnKK, if_pos hok]; exact R9, by rw [plnKC, if_pos hok, if_pos h43]⟩
def wrkKB (K : MS) (v : Int32) : Bool := decide ((nI 1 ≤ v ∧ v ≤ K 0 0) ∧ isWK K v.toNatClampNeg = true)
def workK (K : MS) (v w : Int32) : Int32 := if wrkKB K v = true ∧ (nI 0 ≤ w ∧ w ≤ nI 3) then (if w = 0 then K 30 v.toNatClampNeg else if w = nI 1 then K 27 v.toNatClampNeg else if w = nI 2 then (if K 29 v.toNatClampNeg = 0 then nI 0 else nI 1) else K 32 v.toNatClampNeg) else -1
theorem k_work (d : Nat) (G : GH) (A : AS) (n F : Nat) (K : MS) (L : KL) (v w : Int32) (hR : KR Y G A n F K L) (hm : mdK K n n) : Cd l yX8_work cX8_work 5 (some .int) (d + 2) 0 0 Y [.inr (.inr (some (A 0 0))), .inl v, .inl w] G (fun r G' => G' = G ∧ r = some (.inl (workK K v w))) := by
  refine Ct.of (ini := False) (by decide +kernel) False.elim rfl (Nat.le_of_ble_eq_true rfl) ?_
  intro p e s m args below meth c C X
  have no : ∀ o3 o4, wrkKB K v = false → V p l e (RM (d + 2) 0 0) s m args below meth c Y (GA G s.heap.size) (QM below args s (RM (d + 2) 0 0) Y G (fun r G' => G' = G ∧ r = some (.inl (workK K v w)))) 24 G 0 0 [some (.inr (.inr (some (A 0 0)))), some (.inl v), some (.inl w), o3, o4] [] := by
    intro o3 o4 h
    refine b_X8_work_24.go C ⟨trivial, ?_⟩
    exact V_iret C X d_X8_work_25 (Nat.zero_le _) (Nat.zero_le _) ⟨rfl, by rw [workK, if_neg (by rw [h]; exact fun z => absurd z.1 (by decide))]⟩
  refine b_X8_work_0.go C ⟨trivial, ?_⟩
  refine k_X8_work_2.go C X (k_find (d) G A n F K L v n hR hm) (rest := []) rfl rfl rfl (fun _ => ⟨_, _, _, rfl, hR.mn, by decide⟩) (lb rfl) (Rq.of (by omega) (by decide) (Nat.le_refl _) (Nat.le_refl _)) ?_
  rintro r G9 ⟨h9, rfl⟩
  replace h9 := h9.symm
  subst h9
  by_cases hs : nI 1 ≤ v ∧ v ≤ K 0 0
  rotate_left
  · rw [if_neg hs]
    refine b_X8_work_5.go C ⟨nI 0, ⟨fun _ => ⟨trivial, ?_⟩, fun h => absurd nI_0 h⟩, Or.inl ⟨rfl, nI_0⟩⟩
    exact no _ _ (decide_eq_false (fun z => hs z.1))
  have hs0 := hs
  obtain ⟨j, hj1, hj2, rfl⟩ := sT hm hs
  have h200 := hm.2.2.1
  have ej : (nI j).toNatClampNeg = j := nI_clamp (by omega)
  rw [if_pos hs0, ej]
  by_cases hw : isWK K j = true
  rotate_left
  · have hw : isWK K j = false := by simpa using hw
    refine b_X8_work_5.go C ⟨nI 0, ⟨fun _ => ⟨trivial, ?_⟩, fun h => absurd nI_0 h⟩, Or.inr ⟨_, _, rfl, Or.inl ⟨hR.sg ⟨hj1, hj2⟩ hw, by decide +kernel⟩⟩⟩
    exact no _ _ (decide_eq_false (fun z => by rw [ej, hw] at z; exact absurd z.2 (by decide)))
  have hB : wrkKB K (nI j) = true := decide_eq_true ⟨hs0, by rw [ej]; exact hw⟩
  have hq := hR.wk ⟨hj1, hj2⟩ hw
  refine b_X8_work_5.go C ⟨nI 1, ⟨fun h => absurd h (by decide +kernel), fun _ => ⟨trivial, ?_⟩⟩, (Or.inr ⟨_, _, rfl, Or.inr ⟨hR.wk ⟨hj1, hj2⟩ hw, by decide +kernel⟩⟩)⟩
  refine b_X8_work_15.go C ⟨fun a9 h9 => by cases h9; exact ⟨_, _, hq, by decide⟩, trivial, ?_⟩
  refine b_X8_work_26.go C ⟨fun h26 => ⟨trivial, ?_⟩, fun x tgt hx ht => ⟨trivial, ?_⟩⟩
  · refine b_X8_work_84.go C ⟨trivial, ?_⟩
    refine V_iret C X d_X8_work_85 (Nat.zero_le _) (Nat.zero_le _) ⟨rfl, ?_⟩
    rw [workK, if_neg]
    rintro ⟨-, z1, z2⟩
    obtain ⟨y, y1, y2, rfl⟩ := in_of (a := 0) (b := 3) (by decide) ⟨z1, z2⟩ (by decide)
    rw [nI_toInt (by omega)] at h26
    omega
  · have hwx : w = nI x ∧ x ≤ 3 := by
      have h4 : x < 4 := by
        rcases x with _ | _ | _ | _ | x
        · omega
        · omega
        · omega
        · omega
        · cases ht
      refine ⟨?_, by omega⟩
      apply Int32.toInt_inj.mp
      rw [nI_toInt (by omega), hx]; omega
    obtain ⟨rfl, hx3⟩ := hwx
    have hin : nI 0 ≤ nI x ∧ nI x ≤ nI 3 := ⟨nI_le (by omega) (by omega), nI_le (by omega) (by omega)⟩
    have ew : workK K (nI j) (nI x) = (if nI x = 0 then K 30 j else if nI x = nI 1 then K 27 j else if nI x = nI 2 then (if K 29 j = 0 then nI 0 else nI 1) else K 32 j) := by rw [workK, if_pos ⟨hB, hin⟩, ej]
    rw [ew]
    rcases x with _ | _ | _ | _ | x
    · cases ht
      refine b_X8_work_56.go C ⟨_, hq, trivial, ?_⟩
      exact V_iret C X d_X8_work_60 (Nat.zero_le _) (Nat.zero_le _) ⟨rfl, by rw [if_pos nI_0]; rfl⟩
    · cases ht
      refine b_X8_work_61.go C ⟨_, hq, trivial, ?_⟩
      exact V_iret C X d_X8_work_65 (Nat.zero_le _) (Nat.zero_le _) ⟨rfl, by rw [if_neg (by decide +kernel), if_pos rfl]; rfl⟩
    · cases ht
      refine b_X8_work_66.go C ⟨_, hq, fun h66 => ⟨trivial, ?_⟩, fun h66 => ⟨trivial, ?_⟩⟩
      · have h66 : K 29 j = 0 := h66
        refine b_X8_work_77.go C ⟨trivial, ?_⟩
        exact V_iret C X d_X8_work_78 (Nat.zero_le _) (Nat.zero_le _) ⟨rfl, by rw [if_neg (by decide +kernel), if_neg (by decide +kernel), if_pos rfl, if_pos h66]⟩
      · have h66 : ¬ K 29 j = 0 := h66
        refine b_X8_work_73.go C ⟨trivial, ?_⟩
        exact V_iret C X d_X8_work_78 (Nat.zero_le _) (Nat.zero_le _) ⟨rfl, by rw [if_neg (by decide +kernel), if_neg (by decide +kernel), if_pos rfl, if_neg h66]⟩
    · cases ht
      refine b_X8_work_79.go C ⟨_, hq, trivial, ?_⟩
      exact V_iret C X d_X8_work_83 (Nat.zero_le _) (Nat.zero_le _) ⟨rfl, by rw [if_neg (by decide +kernel), if_neg (by decide +kernel), if_neg (by decide +kernel)]; rfl⟩
    · omega
def pauseK (K : MS) (v w : Int32) : Int32 := if wrkKB K v = true ∧ (nI 1 ≤ w ∧ w ≤ K 32 v.toNatClampNeg) then K (2000 + v.toNatClampNeg) (w.toNatClampNeg - 1) else -1
theorem k_pause (d : Nat) (G : GH) (A : AS) (n F : Nat) (K : MS) (L : KL) (v w : Int32) (hR : KR Y G A n F K L) (hm : mdK K n n) (hpz : ∀ t, 1 ≤ t → t ≤ n → isWK K t = true → pzOk K t ∧ nN K 32 t ≤ nN K 34 t) : Cd l yX8_pause cX8_pause 5 (some .int) (d + 2) 0 0 Y [.inr (.inr (some (A 0 0))), .inl v, .inl w] G (fun r G' => G' = G ∧ r = some (.inl (pauseK K v w))) := by
  refine Ct.of (ini := False) (by decide +kernel) False.elim rfl (Nat.le_of_ble_eq_true rfl) ?_
  intro p e s m args below meth c C X
  have no : ∀ o3 o4, ¬ (wrkKB K v = true ∧ (nI 1 ≤ w ∧ w ≤ K 32 v.toNatClampNeg)) → V p l e (RM (d + 2) 0 0) s m args below meth c Y (GA G s.heap.size) (QM below args s (RM (d + 2) 0 0) Y G (fun r G' => G' = G ∧ r = some (.inl (pauseK K v w)))) 33 G 0 0 [some (.inr (.inr (some (A 0 0)))), some (.inl v), some (.inl w), o3, o4] [] := by
    intro o3 o4 h
    refine b_X8_pause_33.go C ⟨trivial, ?_⟩
    exact V_iret C X d_X8_pause_34 (Nat.zero_le _) (Nat.zero_le _) ⟨rfl, by rw [pauseK, if_neg h]⟩
  refine b_X8_pause_0.go C ⟨trivial, ?_⟩
  refine k_X8_pause_2.go C X (k_find (d) G A n F K L v n hR hm) (rest := []) rfl rfl rfl (fun _ => ⟨_, _, _, rfl, hR.mn, by decide⟩) (lb rfl) (Rq.of (by omega) (by decide) (Nat.le_refl _) (Nat.le_refl _)) ?_
  rintro r G9 ⟨h9, rfl⟩
  replace h9 := h9.symm
  subst h9
  by_cases hs : nI 1 ≤ v ∧ v ≤ K 0 0
  rotate_left
  · rw [if_neg hs]
    refine b_X8_pause_5.go C ⟨nI 0, ⟨fun _ => ⟨trivial, ?_⟩, fun h => absurd nI_0 h⟩, Or.inl ⟨rfl, nI_0⟩⟩
    exact no _ _ (fun z => hs (of_decide_eq_true z.1).1)
  have hs0 := hs
  obtain ⟨j, hj1, hj2, rfl⟩ := sT hm hs
  have h200 := hm.2.2.1
  have ej : (nI j).toNatClampNeg = j := nI_clamp (by omega)
  rw [if_pos hs0, ej]
  by_cases hw : isWK K j = true
  rotate_left
  · have hw : isWK K j = false := by simpa using hw
    refine b_X8_pause_5.go C ⟨nI 0, ⟨fun _ => ⟨trivial, ?_⟩, fun h => absurd nI_0 h⟩, Or.inr ⟨_, _, rfl, Or.inl ⟨hR.sg ⟨hj1, hj2⟩ hw, by decide +kernel⟩⟩⟩
    exact no _ _ (fun z => by have := (of_decide_eq_true z.1).2; rw [ej, hw] at this; cases this)
  have hB : wrkKB K (nI j) = true := decide_eq_true ⟨hs0, by rw [ej]; exact hw⟩
  have hq := hR.wk ⟨hj1, hj2⟩ hw
  obtain ⟨⟨z1, z2, z3, z4⟩, z5⟩ := hpz j hj1 hj2 hw
  refine b_X8_pause_5.go C ⟨nI 1, ⟨fun h => absurd h (by decide +kernel), fun _ => ⟨trivial, ?_⟩⟩, (Or.inr ⟨_, _, rfl, Or.inr ⟨hR.wk ⟨hj1, hj2⟩ hw, by decide +kernel⟩⟩)⟩
  refine b_X8_pause_15.go C ⟨fun a9 h9 => by cases h9; exact ⟨_, _, hq, by decide⟩, _, hq, trivial, ?_⟩
  refine k_X8_pause_27.go C X (c_isWithin (d + 1) G w (nI 1) (K 32 j)) (rest := []) rfl rfl rfl (fun h => absurd rfl h) (lb rfl) (Rq.of (by omega) (by decide) (Nat.le_refl _) (Nat.le_refl _)) ?_
  rintro r G9 ⟨h9, rfl⟩
  replace h9 := h9.symm
  subst h9
  refine b_X8_pause_30.go C ⟨fun h30 => ⟨trivial, ?_⟩, fun h30 => ⟨trivial, ?_⟩⟩
  rotate_left
  · exact no _ _ (fun z => by rw [ej] at z; exact wi_0 h30 z.2)
  have h30 := wi_1 h30
  obtain ⟨x, x1, x2, rfl⟩ := in_of (a := 1) (b := nN K 32 j) (by omega) (z1 ▸ h30) (by decide)
  refine b_X8_pause_35.go C ⟨_, hq, _, pk_sub (by omega), _, _, hR.pe ⟨hj1, hj2⟩ hw, x - 1, rfl, by omega, by omega, _, rfl, trivial, ?_⟩
  exact V_iret C X d_X8_pause_43 (Nat.zero_le _) (Nat.zero_le _) ⟨rfl, by rw [pauseK, if_pos ⟨hB, by rw [ej]; exact h30⟩, ej, nI_clamp (by omega)]⟩
def logKK (K : MS) (v w : Int32) : Int32 := if (nI 0 ≤ v ∧ v ≤ K 80 0 - nI 1) ∧ (nI 0 ≤ w ∧ w ≤ nI 2) then K 82 (3 * v.toNatClampNeg + w.toNatClampNeg) else -1
theorem k_log (d : Nat) (G : GH) (A : AS) (n F : Nat) (K : MS) (L : KL) (v w : Int32) (hR : KR Y G A n F K L) (hj : jrOk K) : Cd l yX8_log cX8_log 3 (some .int) (d + 1) 0 0 Y [.inr (.inr (some (A 0 0))), .inl v, .inl w] G (fun r G' => G' = G ∧ r = some (.inl (logKK K v w))) := by
  refine Ct.of (ini := False) (by decide +kernel) False.elim rfl (Nat.le_of_ble_eq_true rfl) ?_
  intro p e s m args below meth c C X
  obtain ⟨g1, g3, g4, g5, g6⟩ := hj
  have no : ¬ ((nI 0 ≤ v ∧ v ≤ K 80 0 - nI 1) ∧ (nI 0 ≤ w ∧ w ≤ nI 2)) → V p l e (RM (d + 1) 0 0) s m args below meth c Y (GA G s.heap.size) (QM below args s (RM (d + 1) 0 0) Y G (fun r G' => G' = G ∧ r = some (.inl (logKK K v w)))) 26 G 0 0 [some (.inr (.inr (some (A 0 0)))), some (.inl v), some (.inl w)] [] := by
    intro h
    refine b_X8_log_26.go C ⟨trivial, ?_⟩
    exact V_iret C X d_X8_log_27 (Nat.zero_le _) (Nat.zero_le _) ⟨rfl, by rw [logKK, if_neg h]⟩
  refine b_X8_log_0.go C ⟨_, hR.mn, _, hR.jr, _, rfl, trivial, ?_⟩
  refine k_X8_log_11.go C X (c_isWithin d G v (nI 0) (K 80 0 - nI 1)) (rest := []) rfl rfl rfl (fun h => absurd rfl h) (lb rfl) (Rq.of (by omega) (by decide) (Nat.le_refl _) (Nat.le_refl _)) ?_
  rintro r G9 ⟨h9, rfl⟩
  replace h9 := h9.symm
  subst h9
  refine b_X8_log_14.go C ⟨fun h14 => ⟨trivial, ?_⟩, fun h14 => ⟨trivial, ?_⟩⟩
  · exact no (fun z => wi_0 h14 z.1)
  have h14 := wi_1 h14
  refine b_X8_log_17.go C ⟨trivial, ?_⟩
  refine k_X8_log_20.go C X (c_isWithin d G w (nI 0) (nI 2)) (rest := []) rfl rfl rfl (fun h => absurd rfl h) (lb rfl) (Rq.of (by omega) (by decide) (Nat.le_refl _) (Nat.le_refl _)) ?_
  rintro r G9 ⟨h9, rfl⟩
  replace h9 := h9.symm
  subst h9
  refine b_X8_log_23.go C ⟨fun h23 => ⟨trivial, ?_⟩, fun h23 => ⟨trivial, ?_⟩⟩
  rotate_left
  · exact no (fun z => wi_0 h23 z.2)
  have h23 := wi_1 h23
  obtain ⟨y, y1, y2, rfl⟩ := in_of (a := 0) (b := 2) (by decide) h23 (by decide)
  have hx : ∃ x, v = nI x ∧ x < nN K 80 0 := by
    by_cases h0 : nN K 80 0 = 0
    · rw [g1, h0] at h14
      exact absurd (Int32.le_trans h14.1 h14.2) (by decide +kernel)
    · rw [g1, pk_sub (by omega)] at h14
      obtain ⟨x, x1, x2, x3⟩ := in_of (a := 0) (b := nN K 80 0 - 1) (by omega) h14 (by decide)
      exact ⟨x, x3, by omega⟩
  obtain ⟨x, rfl, hx⟩ := hx
  refine b_X8_log_28.go C ⟨_, hR.mn, _, hR.jr, nI (3 * x), (pk_mul _ _).trans (by rw [Nat.mul_comm]), _, nI_add _ _, _, _, hR.jc, 3 * x + y, rfl, by omega, by omega, _, rfl, trivial, ?_⟩
  exact V_iret C X d_X8_log_41 (Nat.zero_le _) (Nat.zero_le _) ⟨rfl, by rw [logKK, if_pos ⟨h14, h23⟩, nI_clamp (by omega), nI_clamp (by omega)]⟩
end CLV
