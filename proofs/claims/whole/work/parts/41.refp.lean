/-! the reference: more that only reads -/
section REFP
variable {l : Launch} {Y : YT}
/-- an int between two small numbers -/
theorem in_of {v : Int32} {a b : Nat} (hb : b < 2 ^ 31) (h : nI a ≤ v ∧ v ≤ nI b) (ha : a < 2 ^ 31) : ∃ j, a ≤ j ∧ j ≤ b ∧ v = nI j := by
  obtain ⟨j, hj, rfl⟩ := nI_of2 (n := b) (M := nI b) (nI_toInt hb) (fun q => absurd (Int32.lt_of_le_of_lt h.1 q) (nI_pos ha)) h.2
  exact ⟨j, (nI_leI ha (by omega)).mp h.1, hj, rfl⟩
def upN (M : MS) (c : Nat) : Int32 := if nN M 47 c = 0 then nI 0 else M 46 (201 * c + nN M 47 c - 1)
theorem r_upmost (d : Nat) (G : GH) (x : Nat) (ra : Nat → Nat) (M : MS) (c0 q0 : Nat) (hR : RR G x ra M) (hc : c0 ≤ 12) (hq : M 47 c0 = nI q0) (hq2 : q0 ≤ 200) : Cd l yX9_upmost cX9_upmost 2 (some .int) d 0 0 Y [.inr (.inr (some x)), .inl (nI c0)] G (fun r G' => G' = G ∧ r = some (.inl (upN M c0))) := by
  refine Ct.of (ini := False) (by decide +kernel) False.elim rfl (Nat.le_of_ble_eq_true rfl) ?_
  intro p e s m args below meth c C X
  have hlc : c0 < 13 := by omega
  have eq : nN M 47 c0 = q0 := nN_of hq (by omega)
  refine b_X9_upmost_0.go C ⟨_, hR.1, _, _, hR.2.1 47 (by decide) rfl, c0, rfl, hlc, lb rfl, _, hq, fun h1 => ⟨trivial, ?_⟩, fun h1 => ⟨trivial, ?_⟩⟩
  · have hz : ¬ q0 = 0 := fun h => h1 (by rw [h]; exact nI_0)
    refine b_X9_upmost_13.go C ⟨_, hR.1, _, pk_mul 201 c0, _, hR.1, _, _, hR.2.1 47 (by decide) rfl, c0, rfl, hlc, lb rfl, _, hq, _, nI_add _ _, _, pk_sub (by omega), _, _, hR.2.1 46 (by decide) rfl, 201 * c0 + q0 - 1, rfl, by show 201 * c0 + q0 - 1 < 2613; omega, lb rfl, _, rfl, trivial, ?_⟩
    exact V_iret C X d_X9_upmost_32 (Nat.zero_le _) (Nat.zero_le _) ⟨rfl, by rw [upN, eq, if_neg hz]⟩
  · have hz : q0 = 0 := (nI_eq (by omega) (by omega)).mp (h1.trans nI_0.symm)
    refine b_X9_upmost_9.go C ⟨trivial, ?_⟩
    exact V_iret C X d_X9_upmost_32 (Nat.zero_le _) (Nat.zero_le _) ⟨rfl, by rw [upN, eq, if_pos hz]⟩
def cookM (M : MS) (v w : Int32) : Int32 :=
  if (nI 1 ≤ v ∧ v ≤ M 45 0) ∧ (nI 0 ≤ w ∧ w ≤ nI 3) then (if w = 0 then M 48 v.toNatClampNeg else if w = nI 1 then M 49 v.toNatClampNeg else if w = nI 2 then M 47 v.toNatClampNeg else upN M v.toNatClampNeg) else -1
theorem r_cook (d : Nat) (G : GH) (x : Nat) (ra : Nat → Nat) (M : MS) (k : Nat) (v w : Int32) (hR : RR G x ra M) (hk : M 45 0 = nI k) (hk2 : k ≤ 12) (hq : ∀ c, c ≤ 12 → ∃ q, M 47 c = nI q ∧ q ≤ 200) : Cd l yX9_cook cX9_cook 3 (some .int) (d + 1) 0 0 Y [.inr (.inr (some x)), .inl v, .inl w] G (fun r G' => G' = G ∧ r = some (.inl (cookM M v w))) := by
  refine Ct.of (ini := False) (by decide +kernel) False.elim rfl (Nat.le_of_ble_eq_true rfl) ?_
  intro p e s m args below meth c C X
  refine b_X9_cook_0.go C ⟨_, hR.1, trivial, ?_⟩
  refine k_X9_cook_6.go C X (r_in d G v (nI 1) (M 45 0)) (rest := []) rfl rfl rfl (fun h => absurd rfl h) (Nat.zero_le _) (Rq.of (Nat.le_refl _) (by decide) (Nat.le_refl _) (Nat.le_refl _)) ?_
  rintro r G' ⟨rfl, rfl⟩
  refine b_X9_cook_9.go C ⟨fun h1 => ⟨trivial, ?_⟩, fun h1 => ⟨trivial, ?_⟩⟩
  · refine b_X9_cook_21.go C ⟨trivial, ?_⟩
    exact V_iret C X d_X9_cook_22 (Nat.zero_le _) (Nat.zero_le _) ⟨rfl, by rw [cookM, if_neg (fun h => of_decide_eq_false (bI_0 h1) h.1)]⟩
  have h2 := of_decide_eq_true (bI_1 h1)
  obtain ⟨j, hj1, hj2, rfl⟩ := in_of (b := k) (by omega) (hk ▸ h2) (by omega)
  have hlj : j < 13 := by omega
  have ecl : (nI j).toNatClampNeg = j := nI_clamp (by omega)
  obtain ⟨q0, hq1, hq2⟩ := hq j (by omega)
  refine b_X9_cook_12.go C ⟨trivial, ?_⟩
  refine k_X9_cook_15.go C X (r_in d G' w (nI 0) (nI 3)) (rest := []) rfl rfl rfl (fun h => absurd rfl h) (Nat.zero_le _) (Rq.of (Nat.le_refl _) (by decide) (Nat.le_refl _) (Nat.le_refl _)) ?_
  rintro r G'' ⟨rfl, rfl⟩
  refine b_X9_cook_18.go C ⟨fun h3 => ⟨trivial, ?_⟩, fun h3 => ⟨trivial, ?_⟩⟩
  rotate_left
  · refine b_X9_cook_21.go C ⟨trivial, ?_⟩
    exact V_iret C X d_X9_cook_22 (Nat.zero_le _) (Nat.zero_le _) ⟨rfl, by rw [cookM, if_neg (fun h => of_decide_eq_false (bI_0 h3) h.2)]⟩
  have h4 := of_decide_eq_true (bI_1 h3)
  refine b_X9_cook_23.go C ⟨fun h5 => ⟨trivial, ?_⟩, fun h5 => ⟨trivial, ?_⟩⟩
  · refine b_X9_cook_36.go C ⟨fun h6 => ⟨trivial, ?_⟩, fun h6 => ⟨trivial, ?_⟩⟩
    · refine b_X9_cook_50.go C ⟨fun h7 => ⟨trivial, ?_⟩, fun h7 => ⟨trivial, ?_⟩⟩
      · refine b_X9_cook_64.go C ⟨trivial, ?_⟩
        refine k_X9_cook_66.go C X (r_upmost d G'' x ra M j q0 hR (by omega) hq1 hq2) (rest := []) rfl rfl rfl (fun _ => ⟨x, 9, _, rfl, hR.1, by decide⟩) (Nat.zero_le _) (Rq.of (Nat.le_refl _) (by decide) (Nat.le_refl _) (Nat.le_refl _)) ?_
        rintro r G3 ⟨rfl, rfl⟩
        exact V_iret C X d_X9_cook_69 (Nat.zero_le _) (Nat.zero_le _) ⟨rfl, by rw [cookM, if_pos ⟨h2, h4⟩, ecl, if_neg h5, if_neg h6, if_neg h7]⟩
      · refine b_X9_cook_55.go C ⟨_, hR.1, _, _, hR.2.1 47 (by decide) rfl, j, rfl, hlj, lb rfl, _, rfl, trivial, ?_⟩
        exact V_iret C X d_X9_cook_69 (Nat.zero_le _) (Nat.zero_le _) ⟨rfl, by rw [cookM, if_pos ⟨h2, h4⟩, ecl, if_neg h5, if_neg h6, if_pos h7]⟩
    · refine b_X9_cook_41.go C ⟨_, hR.1, _, _, hR.2.1 49 (by decide) rfl, j, rfl, hlj, lb rfl, _, rfl, trivial, ?_⟩
      exact V_iret C X d_X9_cook_69 (Nat.zero_le _) (Nat.zero_le _) ⟨rfl, by rw [cookM, if_pos ⟨h2, h4⟩, ecl, if_neg h5, if_pos h6]⟩
  · refine b_X9_cook_27.go C ⟨_, hR.1, _, _, hR.2.1 48 (by decide) rfl, j, rfl, hlj, lb rfl, _, rfl, trivial, ?_⟩
    exact V_iret C X d_X9_cook_69 (Nat.zero_le _) (Nat.zero_le _) ⟨rfl, by rw [cookM, if_pos ⟨h2, h4⟩, ecl, if_pos h5]⟩
def logM (M : MS) (v w : Int32) : Int32 :=
  if (nI 0 ≤ v ∧ v ≤ M 53 0 - nI 1) ∧ (nI 0 ≤ w ∧ w ≤ nI 2) then (if w = 0 then M 50 v.toNatClampNeg else if w = nI 1 then M 51 v.toNatClampNeg else M 52 v.toNatClampNeg) else -1
theorem r_log (d : Nat) (G : GH) (x : Nat) (ra : Nat → Nat) (M : MS) (g : Nat) (v w : Int32) (hR : RR G x ra M) (hg : M 53 0 = nI g) (hg2 : g ≤ 4000) : Cd l yX9_log cX9_log 3 (some .int) (d + 1) 0 0 Y [.inr (.inr (some x)), .inl v, .inl w] G (fun r G' => G' = G ∧ r = some (.inl (logM M v w))) := by
  refine Ct.of (ini := False) (by decide +kernel) False.elim rfl (Nat.le_of_ble_eq_true rfl) ?_
  intro p e s m args below meth c C X
  refine b_X9_log_0.go C ⟨_, hR.1, _, rfl, trivial, ?_⟩
  refine k_X9_log_8.go C X (r_in d G v (nI 0) (M 53 0 - nI 1)) (rest := []) rfl rfl rfl (fun h => absurd rfl h) (Nat.zero_le _) (Rq.of (Nat.le_refl _) (by decide) (Nat.le_refl _) (Nat.le_refl _)) ?_
  rintro r G' ⟨rfl, rfl⟩
  refine b_X9_log_11.go C ⟨fun h1 => ⟨trivial, ?_⟩, fun h1 => ⟨trivial, ?_⟩⟩
  · refine b_X9_log_23.go C ⟨trivial, ?_⟩
    exact V_iret C X d_X9_log_24 (Nat.zero_le _) (Nat.zero_le _) ⟨rfl, by rw [logM, if_neg (fun h => of_decide_eq_false (bI_0 h1) h.1)]⟩
  have h2 := of_decide_eq_true (bI_1 h1)
  have hg0 : 0 < g := by
    rcases Nat.eq_zero_or_pos g with hz | hz
    · exfalso
      rw [hg, hz] at h2
      have h3 := h2.2
      have h4 : v < 0 := Int32.lt_of_le_of_lt h3 (by decide +kernel)
      exact absurd (Int32.lt_of_le_of_lt h2.1 h4) (by decide +kernel)
    · exact hz
  obtain ⟨j, hj1, hj2, rfl⟩ := in_of (a := 0) (b := g - 1) (by omega) ⟨h2.1, by rw [← pk_sub (show 1 ≤ g by omega), ← hg]; exact h2.2⟩ (by omega)
  have hlj : j < 4000 := by omega
  have ecl : (nI j).toNatClampNeg = j := nI_clamp (by omega)
  refine b_X9_log_14.go C ⟨trivial, ?_⟩
  refine k_X9_log_17.go C X (r_in d G' w (nI 0) (nI 2)) (rest := []) rfl rfl rfl (fun h => absurd rfl h) (Nat.zero_le _) (Rq.of (Nat.le_refl _) (by decide) (Nat.le_refl _) (Nat.le_refl _)) ?_
  rintro r G'' ⟨rfl, rfl⟩
  refine b_X9_log_20.go C ⟨fun h3 => ⟨trivial, ?_⟩, fun h3 => ⟨trivial, ?_⟩⟩
  rotate_left
  · refine b_X9_log_23.go C ⟨trivial, ?_⟩
    exact V_iret C X d_X9_log_24 (Nat.zero_le _) (Nat.zero_le _) ⟨rfl, by rw [logM, if_neg (fun h => of_decide_eq_false (bI_0 h3) h.2)]⟩
  have h4 := of_decide_eq_true (bI_1 h3)
  refine b_X9_log_25.go C ⟨fun h5 => ⟨trivial, ?_⟩, fun h5 => ⟨trivial, ?_⟩⟩
  · refine b_X9_log_38.go C ⟨fun h6 => ⟨trivial, ?_⟩, fun h6 => ⟨trivial, ?_⟩⟩
    · refine b_X9_log_52.go C ⟨_, hR.1, _, _, hR.2.1 52 (by decide) rfl, j, rfl, hlj, lb rfl, _, rfl, trivial, ?_⟩
      exact V_iret C X d_X9_log_58 (Nat.zero_le _) (Nat.zero_le _) ⟨rfl, by rw [logM, if_pos ⟨h2, h4⟩, ecl, if_neg h5, if_neg h6]⟩
    · refine b_X9_log_43.go C ⟨_, hR.1, _, _, hR.2.1 51 (by decide) rfl, j, rfl, hlj, lb rfl, _, rfl, trivial, ?_⟩
      exact V_iret C X d_X9_log_58 (Nat.zero_le _) (Nat.zero_le _) ⟨rfl, by rw [logM, if_pos ⟨h2, h4⟩, ecl, if_neg h5, if_pos h6]⟩
  · refine b_X9_log_29.go C ⟨_, hR.1, _, _, hR.2.1 50 (by decide) rfl, j, rfl, hlj, lb rfl, _, rfl, trivial, ?_⟩
    exact V_iret C X d_X9_log_58 (Nat.zero_le _) (Nat.zero_le _) ⟨rfl, by rw [logM, if_pos ⟨h2, h4⟩, ecl, if_pos h5]⟩
def isWB (M : MS) (v : Int32) : Bool := decide (nI 1 ≤ v ∧ v ≤ M 1 0) && decide (nI 9 ≤ M 2 v.toNatClampNeg)
def workM (M : MS) (v w : Int32) : Int32 :=
  if isWB M v = true ∧ (nI 0 ≤ w ∧ w ≤ nI 3) then (if w = 0 then M 25 v.toNatClampNeg else if w = nI 1 then M 21 v.toNatClampNeg else if w = nI 2 then bI (decide (¬ M 26 v.toNatClampNeg = 0)) else M 27 v.toNatClampNeg) else -1
theorem r_work (d : Nat) (G : GH) (x : Nat) (ra : Nat → Nat) (M : MS) (n : Nat) (v w : Int32) (hR : RR G x ra M) (hn : M 1 0 = nI n) (hn2 : n ≤ 200) : Cd l yX9_work cX9_work 3 (some .int) (d + 3) 0 0 Y [.inr (.inr (some x)), .inl v, .inl w] G (fun r G' => G' = G ∧ r = some (.inl (workM M v w))) := by
  refine Ct.of (ini := False) (by decide +kernel) False.elim rfl (Nat.le_of_ble_eq_true rfl) ?_
  intro p e s m args below meth c C X
  refine b_X9_work_0.go C ⟨trivial, ?_⟩
  refine k_X9_work_2.go C X (r_isWork d G x ra M n v hR hn hn2) (rest := []) rfl rfl rfl (fun _ => ⟨x, 9, _, rfl, hR.1, by decide⟩) (Nat.zero_le _) (Rq.of (Nat.le_refl _) (by decide) (Nat.le_refl _) (Nat.le_refl _)) ?_
  rintro r G' ⟨rfl, rfl⟩
  refine b_X9_work_5.go C ⟨fun h1 => ⟨trivial, ?_⟩, fun h1 => ⟨trivial, ?_⟩⟩
  · have h1' : isWB M v = false := bI_0 h1
    refine b_X9_work_17.go C ⟨trivial, ?_⟩
    exact V_iret C X d_X9_work_18 (Nat.zero_le _) (Nat.zero_le _) ⟨rfl, by rw [workM, if_neg (fun h => by rw [h1'] at h; cases h.1)]⟩
  have h1' : isWB M v = true := bI_1 h1
  have h2 : nI 1 ≤ v ∧ v ≤ M 1 0 := by
    have := h1'
    rw [isWB, Bool.and_eq_true] at this
    exact of_decide_eq_true this.1
  obtain ⟨j, hj1, hj2, rfl⟩ := st_of hn hn2 h2
  have hlj : j < 201 := by omega
  have ecl : (nI j).toNatClampNeg = j := nI_clamp (by omega)
  refine b_X9_work_8.go C ⟨trivial, ?_⟩
  refine k_X9_work_11.go C X (r_in d G' w (nI 0) (nI 3)) (rest := []) rfl rfl rfl (fun h => absurd rfl h) (Nat.zero_le _) (Rq.of (by omega) (by decide) (Nat.le_refl _) (Nat.le_refl _)) ?_
  rintro r G'' ⟨rfl, rfl⟩
  refine b_X9_work_14.go C ⟨fun h3 => ⟨trivial, ?_⟩, fun h3 => ⟨trivial, ?_⟩⟩
  rotate_left
  · refine b_X9_work_17.go C ⟨trivial, ?_⟩
    exact V_iret C X d_X9_work_18 (Nat.zero_le _) (Nat.zero_le _) ⟨rfl, by rw [workM, if_neg (fun h => of_decide_eq_false (bI_0 h3) h.2)]⟩
  have h4 := of_decide_eq_true (bI_1 h3)
  refine b_X9_work_19.go C ⟨fun h5 => ⟨trivial, ?_⟩, fun h5 => ⟨trivial, ?_⟩⟩
  · refine b_X9_work_32.go C ⟨fun h6 => ⟨trivial, ?_⟩, fun h6 => ⟨trivial, ?_⟩⟩
    · refine b_X9_work_46.go C ⟨fun h7 => ⟨trivial, ?_⟩, fun h7 => ⟨trivial, ?_⟩⟩
      · refine b_X9_work_68.go C ⟨_, hR.1, _, _, hR.2.1 27 (by decide) rfl, j, rfl, hlj, lb rfl, _, rfl, trivial, ?_⟩
        exact V_iret C X d_X9_work_74 (Nat.zero_le _) (Nat.zero_le _) ⟨rfl, by rw [workM, if_pos ⟨h1', h4⟩, ecl, if_neg h5, if_neg h6, if_neg h7]⟩
      · refine b_X9_work_51.go C ⟨_, hR.1, _, _, hR.2.1 26 (by decide) rfl, j, rfl, hlj, lb rfl, _, rfl, fun h8 => ⟨trivial, ?_⟩, fun h8 => ⟨trivial, ?_⟩⟩
        · refine b_X9_work_64.go C ⟨trivial, ?_⟩
          exact V_iret C X d_X9_work_74 (Nat.zero_le _) (Nat.zero_le _) ⟨rfl, by rw [workM, if_pos ⟨h1', h4⟩, ecl, if_neg h5, if_neg h6, if_pos h7, decide_eq_false (fun h => h h8)]; rfl⟩
        · refine b_X9_work_60.go C ⟨trivial, ?_⟩
          exact V_iret C X d_X9_work_74 (Nat.zero_le _) (Nat.zero_le _) ⟨rfl, by rw [workM, if_pos ⟨h1', h4⟩, ecl, if_neg h5, if_neg h6, if_pos h7, decide_eq_true h8]; rfl⟩
    · refine b_X9_work_37.go C ⟨_, hR.1, _, _, hR.2.1 21 (by decide) rfl, j, rfl, hlj, lb rfl, _, rfl, trivial, ?_⟩
      exact V_iret C X d_X9_work_74 (Nat.zero_le _) (Nat.zero_le _) ⟨rfl, by rw [workM, if_pos ⟨h1', h4⟩, ecl, if_neg h5, if_pos h6]⟩
  · refine b_X9_work_23.go C ⟨_, hR.1, _, _, hR.2.1 25 (by decide) rfl, j, rfl, hlj, lb rfl, _, rfl, trivial, ?_⟩
    exact V_iret C X d_X9_work_74 (Nat.zero_le _) (Nat.zero_le _) ⟨rfl, by rw [workM, if_pos ⟨h1', h4⟩, ecl, if_pos h5]⟩
end REFP
