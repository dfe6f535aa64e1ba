/-! the reference: makings, counts, the first of a stage's inputs -/
section REFC
variable {l : Launch} {Y : YT}
theorem r_isFull (d : Nat) (G : GH) (x : Nat) (ra : Nat → Nat) (M : MS) (n k : Nat) (hR : RR G x ra M) (hn : M 1 0 = nI n) (hn2 : n ≤ 200) (hk : k ≤ 2) : Cd l yX9_isFull cX9_isFull 2 (some .boolean) d 0 0 Y [.inr (.inr (some x)), .inl (nI k)] G (fun r G' => G' = G ∧ r = some (.inl (bI (decide (200 < n + k))))) := by
  refine Ct.of (ini := False) (by decide +kernel) False.elim rfl (Nat.le_of_ble_eq_true rfl) ?_
  intro p e s m args below meth c C X
  refine b_X9_isFull_0.go C ⟨_, hR.1, _, (congrArg (· + nI k) hn).trans (nI_add n k), fun h1 => ⟨trivial, ?_⟩, fun h1 => ⟨trivial, ?_⟩⟩
  · refine b_X9_isFull_16.go C ⟨trivial, ?_⟩
    exact V_zret C X d_X9_isFull_17 z0 (Nat.zero_le _) (Nat.zero_le _) ⟨rfl, by rw [decide_eq_false (Nat.not_lt.mpr ((nI_leI (by omega) (by omega)).mp h1))]; rfl⟩
  · refine b_X9_isFull_12.go C ⟨trivial, ?_⟩
    exact V_zret C X d_X9_isFull_17 z1 (Nat.zero_le _) (Nat.zero_le _) ⟨rfl, by rw [decide_eq_true (Nat.lt_of_not_le (fun h => h1 (nI_le h (by omega))))]; rfl⟩
/-- a new stage, number n + 1 -/
def madeM (M : MS) (n : Nat) (so kd nu : Int32) : MS := up2 (up2 (up2 (up2 M 1 0 (nI (n + 1))) 2 (n + 1) so) 5 (n + 1) kd) 6 (n + 1) nu
theorem r_made (d : Nat) (G : GH) (x : Nat) (ra : Nat → Nat) (M : MS) (n : Nat) (so kd nu : Int32) (hR : RR G x ra M) (hn : M 1 0 = nI n) (hn2 : n < 200) : Cd l yX9_made cX9_made 4 (some .int) d 0 0 Y [.inr (.inr (some x)), .inl so, .inl kd, .inl nu] G (fun r G' => r = some (.inl (nI (n + 1))) ∧ RR G' x ra (madeM M n so kd nu)) := by
  refine Ct.of (ini := False) (by decide +kernel) False.elim rfl (Nat.le_of_ble_eq_true rfl) ?_
  intro p e s m args below meth c C X
  have R1 := hR.s1 (nI (n + 1))
  have R2 := R1.st 2 (n + 1) so (by decide) rfl
  have R3 := R2.st 5 (n + 1) kd (by decide) rfl
  have R4 := R3.st 6 (n + 1) nu (by decide) rfl
  have hlt : n + 1 < 201 := by omega
  refine b_X9_made_0.go C ⟨_, hR.1, _, (congrArg (· + nI 1) hn).trans (nI_1 n), _, hR.1, _, R1.1, _, R1.1, _, _, R1.2.1 2 (by decide) rfl, n + 1, rfl, hlt, lb rfl, _, R2.1, _, R2.1, _, _, R2.2.1 5 (by decide) rfl, n + 1, rfl, hlt, lb rfl, _, R3.1, _, R3.1, _, _, R3.2.1 6 (by decide) rfl, n + 1, rfl, hlt, lb rfl, trivial, ?_⟩
  refine b_X9_made_40.go C ⟨_, R4.1, trivial, ?_⟩
  exact V_iret C X d_X9_made_44 (Nat.zero_le _) (Nat.zero_le _) ⟨rfl, R4⟩
/-- a new work -/
def newWM (M : MS) (n : Nat) (so le kd nu : Int32) : MS := up2 (up2 (up2 (madeM M n so kd nu) 18 (n + 1) le) 19 (n + 1) (nI 1)) 20 (n + 1) (M 0 0)
theorem r_newWork (d : Nat) (G : GH) (x : Nat) (ra : Nat → Nat) (M : MS) (n : Nat) (so le kd nu : Int32) (hR : RR G x ra M) (hn : M 1 0 = nI n) (hn2 : n < 200) : Cd l yX9_newWork cX9_newWork 6 (some .int) (d + 1) 0 0 Y [.inr (.inr (some x)), .inl so, .inl le, .inl kd, .inl nu] G (fun r G' => r = some (.inl (nI (n + 1))) ∧ RR G' x ra (newWM M n so le kd nu)) := by
  refine Ct.of (ini := False) (by decide +kernel) False.elim rfl (Nat.le_of_ble_eq_true rfl) ?_
  intro p e s m args below meth c C X
  refine b_X9_newWork_0.go C ⟨trivial, ?_⟩
  refine k_X9_newWork_5.go C X (r_made d G x ra M n so kd nu hR hn hn2) (rest := []) rfl rfl rfl (fun _ => ⟨x, 9, _, rfl, hR.1, by decide⟩) (Nat.zero_le _) (Rq.of (Nat.le_refl _) (by decide) (Nat.le_refl _) (Nat.le_refl _)) ?_
  rintro r G' ⟨rfl, R0⟩
  have R1 := R0.st 18 (n + 1) le (by decide) rfl
  have R2 := R1.st 19 (n + 1) (nI 1) (by decide) rfl
  have R3 := R2.st 20 (n + 1) (M 0 0) (by decide) rfl
  have hlt : n + 1 < 201 := by omega
  refine b_X9_newWork_8.go C ⟨_, R0.1, _, _, R0.2.1 18 (by decide) rfl, n + 1, rfl, hlt, lb rfl, _, R1.1, _, _, R1.2.1 19 (by decide) rfl, n + 1, rfl, hlt, lb rfl, _, R2.1, _, R2.1, _, _, R2.2.1 20 (by decide) rfl, n + 1, rfl, hlt, lb rfl, trivial, ?_⟩
  exact V_iret C X d_X9_newWork_39 (Nat.zero_le _) (Nat.zero_le _) ⟨rfl, R3⟩
def becM (M : MS) (t : Nat) : MS := if M 19 t = 0 then up2 (up2 M 19 t (nI 1)) 20 t (M 0 0) else M
theorem r_becomes (d : Nat) (G : GH) (x : Nat) (ra : Nat → Nat) (M : MS) (t : Nat) (hR : RR G x ra M) (ht : t ≤ 200) : Cd l yX9_becomes cX9_becomes 2 none d 0 0 Y [.inr (.inr (some x)), .inl (nI t)] G (fun r G' => r = none ∧ RR G' x ra (becM M t)) := by
  refine Ct.of (ini := False) (by decide +kernel) False.elim rfl (Nat.le_of_ble_eq_true rfl) ?_
  intro p e s m args below meth c C X
  have hlt : t < 201 := by omega
  refine b_X9_becomes_0.go C ⟨_, hR.1, _, _, hR.2.1 19 (by decide) rfl, t, rfl, hlt, lb rfl, _, rfl, fun h1 => ⟨trivial, ?_⟩, fun h1 => ⟨trivial, ?_⟩⟩
  · exact V_vret C X d_X9_becomes_26 (Nat.zero_le _) (Nat.zero_le _) ⟨rfl, by rw [becM, if_neg h1]; exact hR⟩
  · have R1 := hR.st 19 t (nI 1) (by decide) rfl
    have R2 := R1.st 20 t (M 0 0) (by decide) rfl
    refine b_X9_becomes_9.go C ⟨_, hR.1, _, _, hR.2.1 19 (by decide) rfl, t, rfl, hlt, lb rfl, _, R1.1, _, R1.1, _, _, R1.2.1 20 (by decide) rfl, t, rfl, hlt, lb rfl, trivial, ?_⟩
    exact V_vret C X d_X9_becomes_26 (Nat.zero_le _) (Nat.zero_le _) ⟨rfl, by rw [becM, if_pos h1]; exact R2⟩
/-- how many inputs t has -/
def kI (M : MS) (t : Nat) : Nat := (M 4 t).toNatClampNeg
/-- is v an input of t? -/
def inpB (M : MS) (t : Nat) (v : Int32) : Bool := anyI (fun j => decide (M 3 (24 * t + j) = v)) (kI M t) 0 false
def takM (M : MS) (t : Nat) (v : Int32) : MS := if inpB M t v then M else up2 (up2 M 3 (24 * t + kI M t) v) 4 t (nI (kI M t + 1))
theorem r_takes (d : Nat) (G : GH) (x : Nat) (ra : Nat → Nat) (M : MS) (t : Nat) (v : Int32) (hR : RR G x ra M) (ht : t ≤ 200) (hk : M 4 t = nI (kI M t)) (hk2 : kI M t < 24) : Cd l yX9_takes cX9_takes 3 none (d + 1) 0 0 Y [.inr (.inr (some x)), .inl (nI t), .inl v] G (fun r G' => r = none ∧ RR G' x ra (takM M t v)) := by
  refine Ct.of (ini := False) (by decide +kernel) False.elim rfl (Nat.le_of_ble_eq_true rfl) ?_
  intro p e s m args below meth c C X
  refine b_X9_takes_0.go C ⟨trivial, ?_⟩
  refine k_X9_takes_3.go C X (r_isInput d G x ra M t (kI M t) v hR ht hk (by omega)) (rest := []) rfl rfl rfl (fun _ => ⟨x, 9, _, rfl, hR.1, by decide⟩) (Nat.zero_le _) (Rq.of (Nat.le_refl _) (by decide) (Nat.le_refl _) (Nat.le_refl _)) ?_
  rintro r G' ⟨rfl, rfl⟩
  have hlt : t < 201 := by omega
  have hl2 : 24 * t + kI M t < 4824 := by omega
  refine b_X9_takes_6.go C ⟨fun h1 => ⟨trivial, ?_⟩, fun h1 => ⟨trivial, ?_⟩⟩
  · exact V_vret C X d_X9_takes_36 (Nat.zero_le _) (Nat.zero_le _) ⟨rfl, by rw [takM, if_pos (show inpB M t v = true from bI_1 h1)]; exact hR⟩
  · have R1 := hR.st 3 (24 * t + kI M t) v (by decide) rfl
    have R2 := R1.st 4 t (nI (kI M t + 1)) (by decide) rfl
    refine b_X9_takes_9.go C ⟨_, hR.1, _, pk_mul 24 t, _, hR.1, _, _, hR.2.1 4 (by decide) rfl, t, rfl, hlt, lb rfl, _, hk, _, nI_add _ _, _, _, hR.2.1 3 (by decide) rfl, _, rfl, hl2, lb rfl, _, R1.1, _, _, R1.2.1 4 (by decide) rfl, t, rfl, hlt, lb rfl, _, hk, _, nI_1 _, _, _, R1.2.1 4 (by decide) rfl, t, rfl, hlt, lb rfl, trivial, ?_⟩
    exact V_vret C X d_X9_takes_36 (Nat.zero_le _) (Nat.zero_le _) ⟨rfl, by rw [takM, if_neg (by rw [show inpB M t v = false from bI_0 h1]; decide)]; exact R2⟩
theorem r_isWork (d : Nat) (G : GH) (x : Nat) (ra : Nat → Nat) (M : MS) (n : Nat) (v : Int32) (hR : RR G x ra M) (hn : M 1 0 = nI n) (hn2 : n ≤ 200) : Cd l yX9_isWork cX9_isWork 2 (some .boolean) (d + 2) 0 0 Y [.inr (.inr (some x)), .inl v] G (fun r G' => G' = G ∧ r = some (.inl (bI (decide (nI 1 ≤ v ∧ v ≤ M 1 0) && decide (nI 9 ≤ M 2 v.toNatClampNeg))))) := by
  refine Ct.of (ini := False) (by decide +kernel) False.elim rfl (Nat.le_of_ble_eq_true rfl) ?_
  intro p e s m args below meth c C X
  refine b_X9_isWork_0.go C ⟨trivial, ?_⟩
  refine k_X9_isWork_2.go C X (r_isStage d G x ra M v hR) (rest := []) rfl rfl rfl (fun _ => ⟨x, 9, _, rfl, hR.1, by decide⟩) (Nat.zero_le _) (Rq.of (by omega) (by decide) (Nat.le_refl _) (Nat.le_refl _)) ?_
  rintro r G' ⟨rfl, rfl⟩
  refine b_X9_isWork_5.go C ⟨fun h1 => ⟨trivial, ?_⟩, fun h1 => ⟨trivial, ?_⟩⟩
  · refine b_X9_isWork_23.go C ⟨trivial, ?_⟩
    exact V_zret C X d_X9_isWork_24 z0 (Nat.zero_le _) (Nat.zero_le _) ⟨rfl, by rw [bI_0 h1]; rfl⟩
  · have h2 := bI_1 h1
    have h3 := of_decide_eq_true h2
    obtain ⟨j, hj, rfl⟩ := nI_of2 (n := n) (M := nI n) (nI_toInt (by omega)) (fun h => absurd (Int32.lt_of_le_of_lt h3.1 h) (by decide +kernel)) (hn ▸ h3.2)
    refine b_X9_isWork_8.go C ⟨_, hR.1, _, _, hR.2.1 2 (by decide) rfl, j, rfl, by show j < 201; omega, lb rfl, _, rfl, fun h4 => ⟨trivial, ?_⟩, fun h4 => ⟨trivial, ?_⟩⟩
    · refine b_X9_isWork_23.go C ⟨trivial, ?_⟩
      exact V_zret C X d_X9_isWork_24 z0 (Nat.zero_le _) (Nat.zero_le _) ⟨rfl, by rw [h2, nI_clamp (by omega), decide_eq_false (Int32.not_le.mpr h4)]; rfl⟩
    · refine b_X9_isWork_19.go C ⟨trivial, ?_⟩
      exact V_zret C X d_X9_isWork_24 z1 (Nat.zero_le _) (Nat.zero_le _) ⟨rfl, by rw [h2, nI_clamp (by omega), decide_eq_true (Int32.not_lt.mp h4)]; rfl⟩
/-- failure f gets another one suppressed: its row begins at a, m stand there -/
def supM (M : MS) (f a k : Nat) (o : Int32) : MS := up2 (up2 (up2 M 39 (a + k) o) 37 f (nI (k + 1))) 40 0 (nI (a + (k + 1)))
theorem r_suppress (d : Nat) (G : GH) (x : Nat) (ra : Nat → Nat) (M : MS) (f a k : Nat) (o : Int32) (hR : RR G x ra M) (hf : f < 2000) (ha : M 36 f = nI a) (hk : M 37 f = nI k) (hb : a + k < 8000) : Cd l yX9_suppress cX9_suppress 3 none d 0 0 Y [.inr (.inr (some x)), .inl (nI f), .inl o] G (fun r G' => r = none ∧ RR G' x ra (supM M f a k o)) := by
  refine Ct.of (ini := False) (by decide +kernel) False.elim rfl (Nat.le_of_ble_eq_true rfl) ?_
  intro p e s m args below meth c C X
  have R1 := hR.st 39 (a + k) o (by decide) rfl
  have R2 := R1.st 37 f (nI (k + 1)) (by decide) rfl
  have R3 := R2.s40 (nI (a + (k + 1)))
  refine b_X9_suppress_0.go C ⟨_, hR.1, _, hR.1, _, _, hR.2.1 36 (by decide) rfl, f, rfl, hf, lb rfl, _, ha, _, hR.1, _, _, hR.2.1 37 (by decide) rfl, f, rfl, hf, lb rfl, _, hk, _, nI_add _ _, _, _, hR.2.1 39 (by decide) rfl, a + k, rfl, hb, lb rfl, _, R1.1, _, _, R1.2.1 37 (by decide) rfl, f, rfl, hf, lb rfl, _, hk, _, nI_1 _, _, _, R1.2.1 37 (by decide) rfl, f, rfl, hf, lb rfl, _, R2.1, trivial, ?_⟩
  refine b_X9_suppress_34.go C ⟨_, _, R2.2.1 36 (by decide) rfl, f, rfl, hf, lb rfl, _, ha, _, R2.1, _, _, R2.2.1 37 (by decide) rfl, f, rfl, hf, lb rfl, _, up2_s _ _ _ _, _, nI_add _ _, _, R2.1, trivial, ?_⟩
  exact V_vret C X d_X9_suppress_46 (Nat.zero_le _) (Nat.zero_le _) ⟨rfl, R3⟩
end REFC
