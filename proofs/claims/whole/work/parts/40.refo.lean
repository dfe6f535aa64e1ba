/-! the reference: what only reads -/
section REFO
variable {l : Launch} {Y : YT}
theorem st_of {M : MS} {n : Nat} {v : Int32} (hn : M 1 0 = nI n) (hn2 : n ≤ 200) (h : nI 1 ≤ v ∧ v ≤ M 1 0) : ∃ j, 1 ≤ j ∧ j ≤ n ∧ v = nI j := by
  obtain ⟨j, hj, rfl⟩ := nI_of2 (n := n) (M := nI n) (nI_toInt (by omega)) (fun q => absurd (Int32.lt_of_le_of_lt h.1 q) (by decide +kernel)) (hn ▸ h.2)
  exact ⟨j, (nI_leI (by omega) (by omega)).mp h.1, hj, rfl⟩
theorem r_now (d : Nat) (G : GH) (x : Nat) (ra : Nat → Nat) (M : MS) (hR : RR G x ra M) : Cd l yX9_now cX9_now 1 (some .int) d 0 0 Y [.inr (.inr (some x))] G (fun r G' => G' = G ∧ r = some (.inl (M 0 0))) := by
  refine Ct.of (ini := False) (by decide +kernel) False.elim rfl (Nat.le_of_ble_eq_true rfl) ?_
  intro p e s m args below meth c C X
  refine b_X9_now_0.go C ⟨_, hR.1, trivial, ?_⟩
  exact V_iret C X d_X9_now_4 (Nat.zero_le _) (Nat.zero_le _) ⟨rfl, rfl⟩
theorem r_stages (d : Nat) (G : GH) (x : Nat) (ra : Nat → Nat) (M : MS) (hR : RR G x ra M) : Cd l yX9_stages cX9_stages 1 (some .int) d 0 0 Y [.inr (.inr (some x))] G (fun r G' => G' = G ∧ r = some (.inl (M 1 0))) := by
  refine Ct.of (ini := False) (by decide +kernel) False.elim rfl (Nat.le_of_ble_eq_true rfl) ?_
  intro p e s m args below meth c C X
  refine b_X9_stages_0.go C ⟨_, hR.1, trivial, ?_⟩
  exact V_iret C X d_X9_stages_4 (Nat.zero_le _) (Nat.zero_le _) ⟨rfl, rfl⟩
theorem r_thrown (d : Nat) (G : GH) (x : Nat) (ra : Nat → Nat) (M : MS) (hR : RR G x ra M) : Cd l yX9_thrown cX9_thrown 1 (some .int) d 0 0 Y [.inr (.inr (some x))] G (fun r G' => G' = G ∧ r = some (.inl (M 54 0))) := by
  refine Ct.of (ini := False) (by decide +kernel) False.elim rfl (Nat.le_of_ble_eq_true rfl) ?_
  intro p e s m args below meth c C X
  refine b_X9_thrown_0.go C ⟨_, hR.1, trivial, ?_⟩
  exact V_iret C X d_X9_thrown_4 (Nat.zero_le _) (Nat.zero_le _) ⟨rfl, rfl⟩
theorem r_clearPlan (d : Nat) (G : GH) (x : Nat) (ra : Nat → Nat) (M : MS) (hR : RR G x ra M) : Cd l yX9_clearPlan cX9_clearPlan 2 (some .int) d 0 0 Y [.inr (.inr (some x))] G (fun r G' => RR G' x ra (up2 M 44 0 (nI 0)) ∧ r = some (.inl (M 44 0))) := by
  refine Ct.of (ini := False) (by decide +kernel) False.elim rfl (Nat.le_of_ble_eq_true rfl) ?_
  intro p e s m args below meth c C X
  refine b_X9_clearPlan_0.go C ⟨_, hR.1, _, hR.1, trivial, ?_⟩
  exact V_iret C X d_X9_clearPlan_11 (Nat.zero_le _) (Nat.zero_le _) ⟨hR.s44 (nI 0), rfl⟩
def stateM (M : MS) (v : Int32) : Int32 :=
  if nI 1 ≤ v ∧ v ≤ M 1 0 then (if ¬ M 8 v.toNatClampNeg = 0 then M 8 v.toNatClampNeg + nI 4 else if nI 9 ≤ M 2 v.toNatClampNeg then M 19 v.toNatClampNeg else nI 0) else -1
theorem r_state (d : Nat) (G : GH) (x : Nat) (ra : Nat → Nat) (M : MS) (n : Nat) (v : Int32) (hR : RR G x ra M) (hn : M 1 0 = nI n) (hn2 : n ≤ 200) : Cd l yX9_state cX9_state 2 (some .int) (d + 2) 0 0 Y [.inr (.inr (some x)), .inl v] G (fun r G' => G' = G ∧ r = some (.inl (stateM M v))) := by
  refine Ct.of (ini := False) (by decide +kernel) False.elim rfl (Nat.le_of_ble_eq_true rfl) ?_
  intro p e s m args below meth c C X
  refine b_X9_state_0.go C ⟨trivial, ?_⟩
  refine k_X9_state_2.go C X (r_isStage d G x ra M v hR) (rest := []) rfl rfl rfl (fun _ => ⟨x, 9, _, rfl, hR.1, by decide⟩) (Nat.zero_le _) (Rq.of (by omega) (by decide) (Nat.le_refl _) (Nat.le_refl _)) ?_
  rintro r G' ⟨rfl, rfl⟩
  refine b_X9_state_5.go C ⟨fun h1 => ⟨trivial, ?_⟩, fun h1 => ⟨trivial, ?_⟩⟩
  rotate_left
  · refine b_X9_state_8.go C ⟨trivial, ?_⟩
    exact V_iret C X d_X9_state_9 (Nat.zero_le _) (Nat.zero_le _) ⟨rfl, by rw [stateM, if_neg (of_decide_eq_false (bI_0 h1))]⟩
  have h2 := of_decide_eq_true (bI_1 h1)
  obtain ⟨j, hj1, hj2, rfl⟩ := st_of hn hn2 h2
  have hlj : j < 201 := by omega
  have ecl : (nI j).toNatClampNeg = j := nI_clamp (by omega)
  refine b_X9_state_10.go C ⟨_, hR.1, _, _, hR.2.1 8 (by decide) rfl, j, rfl, hlj, lb rfl, _, rfl, fun h3 => ⟨trivial, ?_⟩, fun h3 => ⟨trivial, ?_⟩⟩
  · refine b_X9_state_30.go C ⟨_, hR.1, _, _, hR.2.1 2 (by decide) rfl, j, rfl, hlj, lb rfl, _, rfl, fun h4 => ⟨trivial, ?_⟩, fun h4 => ⟨trivial, ?_⟩⟩
    · refine b_X9_state_50.go C ⟨trivial, ?_⟩
      exact V_iret C X d_X9_state_51 (Nat.zero_le _) (Nat.zero_le _) ⟨rfl, by rw [stateM, if_pos h2, ecl, if_neg (fun h => h h3), if_neg (Int32.not_le.mpr h4)]⟩
    · refine b_X9_state_41.go C ⟨_, hR.1, _, _, hR.2.1 19 (by decide) rfl, j, rfl, hlj, lb rfl, _, rfl, trivial, ?_⟩
      exact V_iret C X d_X9_state_51 (Nat.zero_le _) (Nat.zero_le _) ⟨rfl, by rw [stateM, if_pos h2, ecl, if_neg (fun h => h h3), if_pos (Int32.not_lt.mp h4)]⟩
  · refine b_X9_state_19.go C ⟨_, hR.1, _, _, hR.2.1 8 (by decide) rfl, j, rfl, hlj, lb rfl, _, rfl, _, rfl, trivial, ?_⟩
    exact V_iret C X d_X9_state_51 (Nat.zero_le _) (Nat.zero_le _) ⟨rfl, by rw [stateM, if_pos h2, ecl, if_pos h3]⟩
def endM (M : MS) (v w : Int32) : Int32 :=
  if (nI 1 ≤ v ∧ v ≤ M 1 0) ∧ (nI 0 ≤ w ∧ w ≤ nI 1) then (if M 8 v.toNatClampNeg = 0 then -3 else if w = 0 then M 9 v.toNatClampNeg else M 10 v.toNatClampNeg) else -1
theorem r_end (d : Nat) (G : GH) (x : Nat) (ra : Nat → Nat) (M : MS) (n : Nat) (v w : Int32) (hR : RR G x ra M) (hn : M 1 0 = nI n) (hn2 : n ≤ 200) : Cd l yX9_end cX9_end 3 (some .int) (d + 2) 0 0 Y [.inr (.inr (some x)), .inl v, .inl w] G (fun r G' => G' = G ∧ r = some (.inl (endM M v w))) := by
  refine Ct.of (ini := False) (by decide +kernel) False.elim rfl (Nat.le_of_ble_eq_true rfl) ?_
  intro p e s m args below meth c C X
  refine b_X9_end_0.go C ⟨trivial, ?_⟩
  refine k_X9_end_2.go C X (r_isStage d G x ra M v hR) (rest := []) rfl rfl rfl (fun _ => ⟨x, 9, _, rfl, hR.1, by decide⟩) (Nat.zero_le _) (Rq.of (by omega) (by decide) (Nat.le_refl _) (Nat.le_refl _)) ?_
  rintro r G' ⟨rfl, rfl⟩
  refine b_X9_end_5.go C ⟨fun h1 => ⟨trivial, ?_⟩, fun h1 => ⟨trivial, ?_⟩⟩
  · refine b_X9_end_17.go C ⟨trivial, ?_⟩
    exact V_iret C X d_X9_end_18 (Nat.zero_le _) (Nat.zero_le _) ⟨rfl, by rw [endM, if_neg (fun h => of_decide_eq_false (bI_0 h1) h.1)]⟩
  have h2 := of_decide_eq_true (bI_1 h1)
  obtain ⟨j, hj1, hj2, rfl⟩ := st_of hn hn2 h2
  have hlj : j < 201 := by omega
  have ecl : (nI j).toNatClampNeg = j := nI_clamp (by omega)
  refine b_X9_end_8.go C ⟨trivial, ?_⟩
  refine k_X9_end_11.go C X (r_in d G' w (nI 0) (nI 1)) (rest := []) rfl rfl rfl (fun h => absurd rfl h) (Nat.zero_le _) (Rq.of (by omega) (by decide) (Nat.le_refl _) (Nat.le_refl _)) ?_
  rintro r G'' ⟨rfl, rfl⟩
  refine b_X9_end_14.go C ⟨fun h3 => ⟨trivial, ?_⟩, fun h3 => ⟨trivial, ?_⟩⟩
  rotate_left
  · refine b_X9_end_17.go C ⟨trivial, ?_⟩
    exact V_iret C X d_X9_end_18 (Nat.zero_le _) (Nat.zero_le _) ⟨rfl, by rw [endM, if_neg (fun h => of_decide_eq_false (bI_0 h3) h.2)]⟩
  have h4 := of_decide_eq_true (bI_1 h3)
  refine b_X9_end_19.go C ⟨_, hR.1, _, _, hR.2.1 8 (by decide) rfl, j, rfl, hlj, lb rfl, _, rfl, fun h5 => ⟨trivial, ?_⟩, fun h5 => ⟨trivial, ?_⟩⟩
  · refine b_X9_end_33.go C ⟨fun h6 => ⟨trivial, ?_⟩, fun h6 => ⟨trivial, ?_⟩⟩
    · refine b_X9_end_46.go C ⟨_, hR.1, _, _, hR.2.1 10 (by decide) rfl, j, rfl, hlj, lb rfl, _, rfl, trivial, ?_⟩
      exact V_iret C X d_X9_end_52 (Nat.zero_le _) (Nat.zero_le _) ⟨rfl, by rw [endM, if_pos ⟨h2, h4⟩, ecl, if_neg h5, if_neg h6]⟩
    · refine b_X9_end_37.go C ⟨_, hR.1, _, _, hR.2.1 9 (by decide) rfl, j, rfl, hlj, lb rfl, _, rfl, trivial, ?_⟩
      exact V_iret C X d_X9_end_52 (Nat.zero_le _) (Nat.zero_le _) ⟨rfl, by rw [endM, if_pos ⟨h2, h4⟩, ecl, if_neg h5, if_pos h6]⟩
  · refine b_X9_end_28.go C ⟨trivial, ?_⟩
    exact V_iret C X d_X9_end_52 (Nat.zero_le _) (Nat.zero_le _) ⟨rfl, by rw [endM, if_pos ⟨h2, h4⟩, ecl, if_pos h5]⟩
theorem r_served (d : Nat) (G : GH) (x : Nat) (ra : Nat → Nat) (M : MS) (n : Nat) (v : Int32) (hR : RR G x ra M) (hn : M 1 0 = nI n) (hn2 : n ≤ 200) (hI : ∀ t, t ≤ n → inOk M t) : Cd l yX9_served cX9_served 2 (some .int) (d + 2) 0 0 Y [.inr (.inr (some x)), .inl v] G (fun r G' => G' = G ∧ r = some (.inl (if nI 1 ≤ v ∧ v ≤ M 1 0 then nI (srvN M v.toNatClampNeg) else -1))) := by
  refine Ct.of (ini := False) (by decide +kernel) False.elim rfl (Nat.le_of_ble_eq_true rfl) ?_
  intro p e s m args below meth c C X
  refine b_X9_served_0.go C ⟨trivial, ?_⟩
  refine k_X9_served_2.go C X (r_isStage d G x ra M v hR) (rest := []) rfl rfl rfl (fun _ => ⟨x, 9, _, rfl, hR.1, by decide⟩) (Nat.zero_le _) (Rq.of (by omega) (by decide) (Nat.le_refl _) (Nat.le_refl _)) ?_
  rintro r G' ⟨rfl, rfl⟩
  refine b_X9_served_5.go C ⟨fun h1 => ⟨trivial, ?_⟩, fun h1 => ⟨trivial, ?_⟩⟩
  · refine b_X9_served_16.go C ⟨trivial, ?_⟩
    exact V_iret C X d_X9_served_17 (Nat.zero_le _) (Nat.zero_le _) ⟨rfl, by rw [if_neg (of_decide_eq_false (bI_0 h1))]⟩
  · have h2 := of_decide_eq_true (bI_1 h1)
    obtain ⟨j, hj1, hj2, rfl⟩ := st_of hn hn2 h2
    have ecl : (nI j).toNatClampNeg = j := nI_clamp (by omega)
    refine b_X9_served_8.go C ⟨trivial, ?_⟩
    refine k_X9_served_10.go C X (r_servedBy d G' x ra M j n hR hn hn2 hj2 hI) (rest := []) rfl rfl rfl (fun _ => ⟨x, 9, _, rfl, hR.1, by decide⟩) (Nat.zero_le _) (Rq.of (by omega) (by decide) (Nat.le_refl _) (Nat.le_refl _)) ?_
    rintro r G'' ⟨rfl, rfl⟩
    refine b_X9_served_13.go C ⟨trivial, ?_⟩
    exact V_iret C X d_X9_served_17 (Nat.zero_le _) (Nat.zero_le _) ⟨rfl, by rw [if_pos h2, ecl]⟩
def coB (M : MS) (v w : Int32) : Prop := (nI 1 ≤ v ∧ v ≤ M 1 0) ∧ M 8 v.toNatClampNeg = 0 ∧ (M 0 0 ≤ w ∧ w ≤ nI 10000)
theorem r_callOff (d : Nat) (G : GH) (x : Nat) (ra : Nat → Nat) (M : MS) (n : Nat) (v w : Int32) (hR : RR G x ra M) (hn : M 1 0 = nI n) (hn2 : n ≤ 200) : Cd l yX9_callOff cX9_callOff 3 (some .int) (d + 2) 0 0 Y [.inr (.inr (some x)), .inl v, .inl w] G (fun r G' => (coB M v w ∧ r = some (.inl (nI 1)) ∧ RR G' x ra (up2 M 14 v.toNatClampNeg w)) ∨ (¬ coB M v w ∧ r = some (.inl (-1)) ∧ RR G' x ra M)) := by
  refine Ct.of (ini := False) (by decide +kernel) False.elim rfl (Nat.le_of_ble_eq_true rfl) ?_
  intro p e s m args below meth c C X
  have bad : ¬ coB M v w → V p l e (RM (d + 2) 0 0) s m args below meth c Y (GA G s.heap.size) (QM below args s (RM (d + 2) 0 0) Y G (fun r G' => (coB M v w ∧ r = some (.inl (nI 1)) ∧ RR G' x ra (up2 M 14 v.toNatClampNeg w)) ∨ (¬ coB M v w ∧ r = some (.inl (-1)) ∧ RR G' x ra M))) 31 G 0 0 [some (.inr (.inr (some x))), some (.inl v), some (.inl w)] [] := by
    intro hb
    refine b_X9_callOff_31.go C ⟨trivial, ?_⟩
    exact V_iret C X d_X9_callOff_32 (Nat.zero_le _) (Nat.zero_le _) (Or.inr ⟨hb, rfl, hR⟩)
  refine b_X9_callOff_0.go C ⟨trivial, ?_⟩
  refine k_X9_callOff_2.go C X (r_isStage d G x ra M v hR) (rest := []) rfl rfl rfl (fun _ => ⟨x, 9, _, rfl, hR.1, by decide⟩) (Nat.zero_le _) (Rq.of (by omega) (by decide) (Nat.le_refl _) (Nat.le_refl _)) ?_
  rintro r G' ⟨rfl, rfl⟩
  refine b_X9_callOff_5.go C ⟨fun h1 => ⟨trivial, ?_⟩, fun h1 => ⟨trivial, ?_⟩⟩
  · exact bad (fun h => of_decide_eq_false (bI_0 h1) h.1)
  have h2 := of_decide_eq_true (bI_1 h1)
  obtain ⟨j, hj1, hj2, rfl⟩ := st_of hn hn2 h2
  have hlj : j < 201 := by omega
  have ecl : (nI j).toNatClampNeg = j := nI_clamp (by omega)
  refine b_X9_callOff_8.go C ⟨_, hR.1, _, _, hR.2.1 8 (by decide) rfl, j, rfl, hlj, lb rfl, _, rfl, fun h3 => ⟨trivial, ?_⟩, fun h3 => ⟨trivial, ?_⟩⟩
  · exact bad (fun h => h3 (by have := h.2.1; rw [ecl] at this; exact this))
  refine b_X9_callOff_17.go C ⟨_, hR.1, trivial, ?_⟩
  refine k_X9_callOff_25.go C X (r_in d G' w (M 0 0) (nI 10000)) (rest := []) rfl rfl rfl (fun h => absurd rfl h) (Nat.zero_le _) (Rq.of (by omega) (by decide) (Nat.le_refl _) (Nat.le_refl _)) ?_
  rintro r G'' ⟨rfl, rfl⟩
  refine b_X9_callOff_28.go C ⟨fun h4 => ⟨trivial, ?_⟩, fun h4 => ⟨trivial, ?_⟩⟩
  · have h5 := of_decide_eq_true (bI_1 h4)
    refine b_X9_callOff_33.go C ⟨_, hR.1, _, _, hR.2.1 14 (by decide) rfl, j, rfl, hlj, lb rfl, trivial, ?_⟩
    exact V_iret C X d_X9_callOff_41 (Nat.zero_le _) (Nat.zero_le _) (Or.inl ⟨⟨h2, by rw [ecl]; exact h3, h5⟩, rfl, by rw [ecl]; exact hR.st 14 j w (by decide) rfl⟩)
  · exact bad (fun h => of_decide_eq_false (bI_0 h4) h.2.2)
end REFO
