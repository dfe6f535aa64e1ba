/-! the reference's small methods -/
section REFA
variable {l : Launch} {Y : YT}
theorem r_in (d : Nat) (G : GH) (x a b : Int32) : Cd l yX9_in cX9_in 3 (some .boolean) d 0 0 Y [.inl x, .inl a, .inl b] G (fun r G' => G' = G ∧ r = some (.inl (bI (decide (a ≤ x ∧ x ≤ b))))) := by
  refine Ct.of (ini := False) (by decide +kernel) False.elim rfl (Nat.le_of_ble_eq_true rfl) ?_
  intro p e s m args below meth c C X
  refine b_X9_in_0.go C ⟨fun h1 => ⟨trivial, ?_⟩, fun h1 => ⟨trivial, ?_⟩⟩
  · refine b_X9_in_14.go C ⟨trivial, ?_⟩
    exact V_zret C X d_X9_in_15 z0 (Nat.zero_le _) (Nat.zero_le _) ⟨rfl, by rw [decide_eq_false (fun h => absurd h.1 (Int32.not_le.mpr h1))]; rfl⟩
  · refine b_X9_in_5.go C ⟨fun h2 => ⟨trivial, ?_⟩, fun h2 => ⟨trivial, ?_⟩⟩
    · refine b_X9_in_14.go C ⟨trivial, ?_⟩
      exact V_zret C X d_X9_in_15 z0 (Nat.zero_le _) (Nat.zero_le _) ⟨rfl, by rw [decide_eq_false (fun h => absurd h.2 (Int32.not_le.mpr h2))]; rfl⟩
    · refine b_X9_in_10.go C ⟨trivial, ?_⟩
      exact V_zret C X d_X9_in_15 z1 (Nat.zero_le _) (Nat.zero_le _) ⟨rfl, by rw [decide_eq_true ⟨Int32.not_lt.mp h1, Int32.not_lt.mp h2⟩]; rfl⟩
/-- is the int v a stage's number? -/
def isSt (M : MS) (v : Int32) : Prop := nI 1 ≤ v ∧ v ≤ M 1 0
theorem r_isStage (d : Nat) (G : GH) (x : Nat) (ra : Nat → Nat) (M : MS) (v : Int32) (hR : RR G x ra M) : Cd l yX9_isStage cX9_isStage 2 (some .boolean) (d + 1) 0 0 Y [.inr (.inr (some x)), .inl v] G (fun r G' => G' = G ∧ r = some (.inl (bI (decide (nI 1 ≤ v ∧ v ≤ M 1 0))))) := by
  refine Ct.of (ini := False) (by decide +kernel) False.elim rfl (Nat.le_of_ble_eq_true rfl) ?_
  intro p e s m args below meth c C X
  refine b_X9_isStage_0.go C ⟨_, hR.1, trivial, ?_⟩
  refine k_X9_isStage_6.go C X (r_in d G v (nI 1) (M 1 0)) (rest := []) rfl rfl rfl (fun h => absurd rfl h) (Nat.zero_le _) (Rq.of (Nat.le_refl _) (by decide) (Nat.le_refl _) (Nat.le_refl _)) ?_
  rintro r G' ⟨rfl, rfl⟩
  exact V_zret C X d_X9_isStage_9 (bI_z _) (Nat.zero_le _) (Nat.zero_le _) ⟨rfl, rfl⟩
/-- an entry of the log -/
def noteM (M : MS) (n : Nat) (s ev : Int32) : MS := up2 (up2 (up2 (up2 M 50 n (M 0 0)) 51 n s) 52 n ev) 53 0 (nI (n + 1))
theorem r_note (d : Nat) (G : GH) (x : Nat) (ra : Nat → Nat) (M : MS) (n : Nat) (t ev : Int32) (hR : RR G x ra M) (hl : M 53 0 = nI n) (hn : n < 4000) : Cd l yX9_note cX9_note 3 none d 0 0 Y [.inr (.inr (some x)), .inl t, .inl ev] G (fun r G' => r = none ∧ RR G' x ra (noteM M n t ev)) := by
  refine Ct.of (ini := False) (by decide +kernel) False.elim rfl (Nat.le_of_ble_eq_true rfl) ?_
  intro p e s m args below meth c C X
  have R1 := hR.st 50 n (M 0 0) (by decide) rfl
  have R2 := R1.st 51 n t (by decide) rfl
  have R3 := R2.st 52 n ev (by decide) rfl
  refine b_X9_note_0.go C ⟨_, hR.1, _, hR.1, _, hR.1, _, _, hR.2.1 50 (by decide) rfl, n, hl, hn, lb rfl, _, R1.1, _, R1.1, _, _, R1.2.1 51 (by decide) rfl, n, hl, hn, lb rfl, _, R2.1, _, R2.1, _, _, R2.2.1 52 (by decide) rfl, n, hl, hn, lb rfl, _, R3.1, nI (n + 1), (congrArg (· + nI 1) hl).trans (nI_1 n), trivial, ?_⟩
  refine b_X9_note_40.go C ⟨_, R3.1, trivial, ?_⟩
  exact V_vret C X d_X9_note_43 (Nat.zero_le _) (Nat.zero_le _) ⟨rfl, R3.s53 (nI (n + 1))⟩
/-- a new failure: number n -/
def newFM (M : MS) (n : Nat) (kd at' ca : Int32) : MS := up2 (up2 (up2 (up2 (up2 (up2 M 33 n kd) 34 n at') 35 n ca) 36 n (M 40 0)) 37 n (nI 0)) 38 0 (nI (n + 1))
theorem r_newFailure (d : Nat) (G : GH) (x : Nat) (ra : Nat → Nat) (M : MS) (n : Nat) (kd at' ca : Int32) (hR : RR G x ra M) (hl : M 38 0 = nI n) (hn : n < 2000) : Cd l yX9_newFailure cX9_newFailure 4 (some .int) d 0 0 Y [.inr (.inr (some x)), .inl kd, .inl at', .inl ca] G (fun r G' => r = some (.inl (nI n)) ∧ RR G' x ra (newFM M n kd at' ca)) := by
  refine Ct.of (ini := False) (by decide +kernel) False.elim rfl (Nat.le_of_ble_eq_true rfl) ?_
  intro p e s m args below meth c C X
  have R1 := hR.st 33 n kd (by decide) rfl
  have R2 := R1.st 34 n at' (by decide) rfl
  have R3 := R2.st 35 n ca (by decide) rfl
  have R4 := R3.st 36 n (M 40 0) (by decide) rfl
  have R5 := R4.st 37 n (nI 0) (by decide) rfl
  have R6 := R5.s38 (nI (n + 1))
  refine b_X9_newFailure_0.go C ⟨_, hR.1, _, hR.1, _, _, hR.2.1 33 (by decide) rfl, n, hl, hn, lb rfl, _, R1.1, _, R1.1, _, _, R1.2.1 34 (by decide) rfl, n, hl, hn, lb rfl, _, R2.1, _, R2.1, _, _, R2.2.1 35 (by decide) rfl, n, hl, hn, lb rfl, _, R3.1, _, R3.1, _, R3.1, trivial, ?_⟩
  refine b_X9_newFailure_42.go C ⟨_, _, R3.2.1 36 (by decide) rfl, n, hl, hn, lb rfl, _, R4.1, _, R4.1, _, _, R4.2.1 37 (by decide) rfl, n, hl, hn, lb rfl, _, R5.1, nI (n + 1), (congrArg (· + nI 1) hl).trans (nI_1 n), _, R5.1, _, R6.1, nI n, (pk_sub (by omega)).trans (by rw [Nat.add_sub_cancel]), trivial, ?_⟩
  exact V_iret C X d_X9_newFailure_69 (Nat.zero_le _) (Nat.zero_le _) ⟨rfl, R6⟩
end REFA
