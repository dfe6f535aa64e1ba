/-! the reference: plans, pauses' ends, answers, which works are over, rests -/
section REFR
variable {l : Launch} {Y : YT}
def plnF (M : MS) (u v : Int32) : Nat → Nat → Int32 → Int32
  | 0, _, a => a
  | q + 1, k, a => plnF M u v q (k + 1) (if M 41 k = u ∧ M 42 k = v then nI k else a)
/-- the row of the plan of work u, working v; -1 where there is none -/
def plnM (M : MS) (u v : Int32) : Int32 := plnF M u v (nN M 44 0) 0 (-1)
theorem plnF_or (M : MS) (u v : Int32) : ∀ (q k : Nat) (a : Int32), plnF M u v q k a = a ∨ ∃ j, k ≤ j ∧ j < k + q ∧ plnF M u v q k a = nI j
  | 0, _, _ => Or.inl rfl
  | q + 1, k, a => by
    rw [plnF]
    rcases plnF_or M u v q (k + 1) (if M 41 k = u ∧ M 42 k = v then nI k else a) with h | ⟨j, h1, h2, h3⟩
    · rw [h]
      split
      · exact Or.inr ⟨k, Nat.le_refl k, by omega, rfl⟩
      · exact Or.inl rfl
    · exact Or.inr ⟨j, by omega, by omega, h3⟩
theorem r_planned (d : Nat) (G : GH) (x : Nat) (ra : Nat → Nat) (M : MS) (u v : Int32) (q0 : Nat) (hR : RR G x ra M) (hq : M 44 0 = nI q0) (hq2 : q0 ≤ 64) : Cd l yX9_planned cX9_planned 5 (some .int) d 0 0 Y [.inr (.inr (some x)), .inl u, .inl v] G (fun r G' => G' = G ∧ r = some (.inl (plnM M u v))) := by
  refine Ct.of (ini := False) (by decide +kernel) False.elim rfl (Nat.le_of_ble_eq_true rfl) ?_
  intro p e s m args below meth c C X
  have eq : nN M 44 0 = q0 := nN_of hq (by omega)
  refine b_X9_planned_0.go C ⟨trivial, ?_⟩
  refine (show ∀ (q k : Nat) (a : Int32), k + q = q0 → plnM M u v = plnF M u v q k a → V p l e (RM d 0 0) s m args below meth c Y (GA G s.heap.size) (QM below args s (RM d 0 0) Y G (fun r G' => G' = G ∧ r = some (.inl (plnM M u v)))) 5 G 0 0 [some (.inr (.inr (some x))), some (.inl u), some (.inl v), some (.inl a), some (.inl (nI k))] [] from ?_) q0 0 (-1) (by omega) (by rw [plnM, eq])
  intro q
  induction q with
  | zero =>
    intro k a hk hs
    refine b_X9_planned_5.go C ⟨_, hR.1, fun h5 => ⟨trivial, ?_⟩, fun h => absurd (show (M 44 0) ≤ (nI k) by rw [hq]; exact nI_le (by omega) (by omega)) h⟩
    refine b_X9_planned_49.go C ⟨trivial, ?_⟩
    exact V_iret C X d_X9_planned_50 (Nat.zero_le _) (Nat.zero_le _) ⟨rfl, by rw [hs, plnF]⟩
  | succ q ih =>
    intro k a hk hs
    refine b_X9_planned_5.go C ⟨_, hR.1, fun h => absurd (show q0 ≤ k from (nI_leI (by omega) (by omega)).mp (by have h9 : (M 44 0) ≤ (nI k) := h; rw [hq] at h9; exact h9)) (by omega), fun h5 => ⟨trivial, ?_⟩⟩
    have nx : ∀ (z : Int32), z = (if M 41 k = u ∧ M 42 k = v then nI k else a) → V p l e (RM d 0 0) s m args below meth c Y (GA G s.heap.size) (QM below args s (RM d 0 0) Y G (fun r G' => G' = G ∧ r = some (.inl (plnM M u v)))) 42 G 0 0 [some (.inr (.inr (some x))), some (.inl u), some (.inl v), some (.inl a), some (.inl (nI k))] [.inl z] := by
      intro z hz
      refine b_X9_planned_42.go C ⟨_, nI_1 _, trivial, ?_⟩
      exact ih (k + 1) z (by omega) (by rw [hs, plnF, ← hz])
    refine b_X9_planned_14.go C ⟨_, hR.1, _, _, hR.2.1 41 (by decide) rfl, k, rfl, by show k < 64; omega, lb rfl, _, rfl, fun h14 => ⟨trivial, ?_⟩, fun h14 => ⟨trivial, ?_⟩⟩
    · refine b_X9_planned_41.go C ⟨trivial, ?_⟩
      exact nx a (by rw [if_neg (fun h => h14 h.1)])
    · refine b_X9_planned_25.go C ⟨_, hR.1, _, _, hR.2.1 42 (by decide) rfl, k, rfl, by show k < 64; omega, lb rfl, _, rfl, fun h25 => ⟨trivial, ?_⟩, fun h25 => ⟨trivial, ?_⟩⟩
      · refine b_X9_planned_41.go C ⟨trivial, ?_⟩
        exact nx a (by rw [if_neg (fun h => h25 h.2)])
      · refine b_X9_planned_36.go C ⟨trivial, ?_⟩
        exact nx (nI k) (by rw [if_pos ⟨h14, h25⟩])
def pauseM (M : MS) (v w : Int32) : Int32 :=
  if isWB M v = true ∧ (nI 1 ≤ w ∧ w ≤ M 27 v.toNatClampNeg) then M 28 (6 * v.toNatClampNeg + w.toNatClampNeg - 1) else -1
theorem r_pause (d : Nat) (G : GH) (x : Nat) (ra : Nat → Nat) (M : MS) (n : Nat) (v w : Int32) (hR : RR G x ra M) (hn : M 1 0 = nI n) (hn2 : n ≤ 200) (hp : ∀ t, t ≤ n → ∃ k, M 27 t = nI k ∧ k ≤ 5) : Cd l yX9_pause cX9_pause 3 (some .int) (d + 3) 0 0 Y [.inr (.inr (some x)), .inl v, .inl w] G (fun r G' => G' = G ∧ r = some (.inl (pauseM M v w))) := by
  refine Ct.of (ini := False) (by decide +kernel) False.elim rfl (Nat.le_of_ble_eq_true rfl) ?_
  intro p e s m args below meth c C X
  refine b_X9_pause_0.go C ⟨trivial, ?_⟩
  refine k_X9_pause_2.go C X (r_isWork d G x ra M n v hR hn hn2) (rest := []) rfl rfl rfl (fun _ => ⟨x, 9, _, rfl, hR.1, by decide⟩) (lb rfl) (Rq.of (by omega) (by decide) (Nat.le_refl _) (Nat.le_refl _)) ?_
  rintro r G9 ⟨h9, rfl⟩
  replace h9 := h9.symm
  subst h9
  refine b_X9_pause_5.go C ⟨fun h5 => ⟨trivial, ?_⟩, fun h5 => ⟨trivial, ?_⟩⟩
  · have h5' : isWB M v = false := bI_0 h5
    refine b_X9_pause_38.go C ⟨trivial, ?_⟩
    exact V_iret C X d_X9_pause_39 (Nat.zero_le _) (Nat.zero_le _) ⟨rfl, by rw [pauseM, if_neg (fun h => by rw [h5'] at h; cases h.1)]⟩
  have h5' : isWB M v = true := bI_1 h5
  have h2 : nI 1 ≤ v ∧ v ≤ M 1 0 := by
    have := h5'
    rw [isWB, Bool.and_eq_true] at this
    exact of_decide_eq_true this.1
  obtain ⟨j, hj1, hj2, rfl⟩ := st_of hn hn2 h2
  have ecl : (nI j).toNatClampNeg = j := nI_clamp (by omega)
  obtain ⟨k, hk, hk2⟩ := hp j hj2
  refine b_X9_pause_8.go C ⟨_, hR.1, _, _, hR.2.1 27 (by decide) rfl, j, rfl, by show j < 201; omega, lb rfl, _, hk, trivial, ?_⟩
  refine k_X9_pause_16.go C X (r_in d G w (nI 1) (nI k)) (rest := []) rfl rfl rfl (fun h => absurd rfl h) (lb rfl) (Rq.of (by omega) (by decide) (Nat.le_refl _) (Nat.le_refl _)) ?_
  rintro r G9 ⟨h9, rfl⟩
  replace h9 := h9.symm
  subst h9
  refine b_X9_pause_19.go C ⟨fun h19 => ⟨trivial, ?_⟩, fun h19 => ⟨trivial, ?_⟩⟩
  · refine b_X9_pause_38.go C ⟨trivial, ?_⟩
    exact V_iret C X d_X9_pause_39 (Nat.zero_le _) (Nat.zero_le _) ⟨rfl, by rw [pauseM, if_neg (fun h => of_decide_eq_false (bI_0 h19) ⟨h.2.1, by rw [← hk]; have h9 := h.2.2; rw [ecl] at h9; exact h9⟩)]⟩
  have h6 := of_decide_eq_true (bI_1 h19)
  obtain ⟨i, hi1, hi2, rfl⟩ := in_of (a := 1) (b := k) (by omega) h6 (by omega)
  refine b_X9_pause_22.go C ⟨_, hR.1, _, pk_mul _ _, _, nI_add _ _, _, pk_sub (by omega), _, _, hR.2.1 28 (by decide) rfl, (6 * j + i) - 1, rfl, by show (6 * j + i) - 1 < 1206; omega, lb rfl, _, rfl, trivial, ?_⟩
  exact V_iret C X d_X9_pause_39 (Nat.zero_le _) (Nat.zero_le _) ⟨rfl, by rw [pauseM, if_pos ⟨h5', h6.1, by rw [ecl, hk]; exact h6.2⟩, ecl, nI_clamp (by omega)]⟩
/-- what answer() says: thrown, and the value -/
def ansT (M : MS) (v : Int32) : Int32 := if nI 1 ≤ v ∧ v ≤ M 1 0 then (if M 8 v.toNatClampNeg = nI 1 then nI 0 else nI 2) else nI 1
def ansM (M : MS) (v : Int32) : Int32 := if ansT M v = 0 then M 11 v.toNatClampNeg else nI 0
theorem r_answer (d : Nat) (G : GH) (x : Nat) (ra : Nat → Nat) (M : MS) (n : Nat) (v : Int32) (hR : RR G x ra M) (hn : M 1 0 = nI n) (hn2 : n ≤ 200) : Cd l yX9_answer cX9_answer 2 (some .int) (d + 2) 0 0 Y [.inr (.inr (some x)), .inl v] G (fun r G' => RR G' x ra (up2 M 54 0 (ansT M v)) ∧ r = some (.inl (ansM M v))) := by
  refine Ct.of (ini := False) (by decide +kernel) False.elim rfl (Nat.le_of_ble_eq_true rfl) ?_
  intro p e s m args below meth c C X
  refine b_X9_answer_0.go C ⟨trivial, ?_⟩
  refine k_X9_answer_3.go C X (r_isStage d G x ra M v hR) (rest := [.inr (.inr (some x))]) rfl rfl rfl (fun _ => ⟨x, 9, _, rfl, hR.1, by decide⟩) (lb rfl) (Rq.of (by omega) (by decide) (Nat.le_refl _) (Nat.le_refl _)) ?_
  rintro r G9 ⟨h9, rfl⟩
  replace h9 := h9.symm
  subst h9
  refine b_X9_answer_6.go C ⟨fun h6 => ⟨trivial, ?_⟩, fun h6 => ⟨trivial, ?_⟩⟩
  · have h2 := of_decide_eq_true (bI_1 h6)
    obtain ⟨j, hj1, hj2, rfl⟩ := st_of hn hn2 h2
    have ecl : (nI j).toNatClampNeg = j := nI_clamp (by omega)
    refine b_X9_answer_13.go C ⟨_, hR.1, _, _, hR.2.1 8 (by decide) rfl, j, rfl, by show j < 201; omega, lb rfl, _, rfl, fun h13 => ⟨trivial, ?_⟩, fun h13 => ⟨trivial, ?_⟩⟩
    · have e9 : ansT M (nI j) = nI 0 := by rw [ansT, if_pos h2, ecl, if_pos h13]
      refine b_X9_answer_27.go C ⟨trivial, ?_⟩
      have R1_ := hR.s54 (nI 0)
      refine b_X9_answer_28.go C ⟨_, hR.1, _, R1_.1, fun h => absurd nI_0 h, fun h28 => ⟨trivial, ?_⟩⟩
      refine b_X9_answer_38.go C ⟨_, R1_.1, _, _, R1_.2.1 11 (by decide) rfl, j, rfl, by show j < 201; omega, lb rfl, _, rfl, trivial, ?_⟩
      exact V_iret C X d_X9_answer_48 (Nat.zero_le _) (Nat.zero_le _) ⟨by rw [e9]; exact R1_, by rw [ansM, e9, if_pos nI_0, ecl]; rfl⟩
    · have e9 : ansT M (nI j) = nI 2 := by rw [ansT, if_pos h2, ecl, if_neg h13]
      refine b_X9_answer_23.go C ⟨trivial, ?_⟩
      have R2_ := hR.s54 (nI 2)
      refine b_X9_answer_28.go C ⟨_, hR.1, _, R2_.1, fun h28 => ⟨trivial, ?_⟩, fun h => absurd (show nI 2 = 0 from h) (by decide +kernel)⟩
      refine b_X9_answer_47.go C ⟨trivial, ?_⟩
      exact V_iret C X d_X9_answer_48 (Nat.zero_le _) (Nat.zero_le _) ⟨by rw [e9]; exact R2_, by rw [ansM, e9, if_neg (by decide +kernel)]⟩
  · have e9 : ansT M v = nI 1 := by rw [ansT, if_neg (of_decide_eq_false (bI_0 h6))]
    refine b_X9_answer_9.go C ⟨trivial, ?_⟩
    have R3_ := hR.s54 (nI 1)
    refine b_X9_answer_28.go C ⟨_, hR.1, _, R3_.1, fun h28 => ⟨trivial, ?_⟩, fun h => absurd (show nI 1 = 0 from h) (by decide +kernel)⟩
    refine b_X9_answer_47.go C ⟨trivial, ?_⟩
    exact V_iret C X d_X9_answer_48 (Nat.zero_le _) (Nat.zero_le _) ⟨by rw [e9]; exact R3_, by rw [ansM, e9, if_neg (by decide +kernel)]⟩
/-- is the work t over at this minute? -/
def ovrB (M : MS) (t : Nat) : Bool := decide (nI 9 ≤ M 2 t ∧ M 8 t = 0 ∧ M 19 t = nI 2 ∧ M 23 t = M 0 0)
theorem r_isOverNow (d : Nat) (G : GH) (x : Nat) (ra : Nat → Nat) (M : MS) (t : Nat) (hR : RR G x ra M) (ht : t ≤ 200) : Cd l yX9_isOverNow cX9_isOverNow 2 (some .boolean) d 0 0 Y [.inr (.inr (some x)), .inl (nI t)] G (fun r G' => G' = G ∧ r = some (.inl (bI (ovrB M t)))) := by
  refine Ct.of (ini := False) (by decide +kernel) False.elim rfl (Nat.le_of_ble_eq_true rfl) ?_
  intro p e s m args below meth c C X
  refine b_X9_isOverNow_0.go C ⟨_, hR.1, _, _, hR.2.1 2 (by decide) rfl, t, rfl, by show t < 201; omega, lb rfl, _, rfl, fun h0 => ⟨trivial, ?_⟩, fun h0 => ⟨trivial, ?_⟩⟩
  · refine b_X9_isOverNow_47.go C ⟨trivial, ?_⟩
    exact V_zret C X d_X9_isOverNow_48 z0 (Nat.zero_le _) (Nat.zero_le _) ⟨rfl, by rw [ovrB, decide_eq_false (fun h => absurd h.1 (Int32.not_le.mpr h0))]; rfl⟩
  refine b_X9_isOverNow_11.go C ⟨_, hR.1, _, _, hR.2.1 8 (by decide) rfl, t, rfl, by show t < 201; omega, lb rfl, _, rfl, fun h11 => ⟨trivial, ?_⟩, fun h11 => ⟨trivial, ?_⟩⟩
  · refine b_X9_isOverNow_47.go C ⟨trivial, ?_⟩
    exact V_zret C X d_X9_isOverNow_48 z0 (Nat.zero_le _) (Nat.zero_le _) ⟨rfl, by rw [ovrB, decide_eq_false (fun h => h11 h.2.1)]; rfl⟩
  refine b_X9_isOverNow_20.go C ⟨_, hR.1, _, _, hR.2.1 19 (by decide) rfl, t, rfl, by show t < 201; omega, lb rfl, _, rfl, fun h20 => ⟨trivial, ?_⟩, fun h20 => ⟨trivial, ?_⟩⟩
  · refine b_X9_isOverNow_47.go C ⟨trivial, ?_⟩
    exact V_zret C X d_X9_isOverNow_48 z0 (Nat.zero_le _) (Nat.zero_le _) ⟨rfl, by rw [ovrB, decide_eq_false (fun h => h20 h.2.2.1)]; rfl⟩
  refine b_X9_isOverNow_30.go C ⟨_, hR.1, _, _, hR.2.1 23 (by decide) rfl, t, rfl, by show t < 201; omega, lb rfl, _, rfl, _, hR.1, fun h30 => ⟨trivial, ?_⟩, fun h30 => ⟨trivial, ?_⟩⟩
  · refine b_X9_isOverNow_47.go C ⟨trivial, ?_⟩
    exact V_zret C X d_X9_isOverNow_48 z0 (Nat.zero_le _) (Nat.zero_le _) ⟨rfl, by rw [ovrB, decide_eq_false (fun h => h30 h.2.2.2)]; rfl⟩
  · refine b_X9_isOverNow_43.go C ⟨trivial, ?_⟩
    exact V_zret C X d_X9_isOverNow_48 z1 (Nat.zero_le _) (Nat.zero_le _) ⟨rfl, by rw [ovrB, decide_eq_true ⟨Int32.not_lt.mp h0, h11, h20, h30⟩]; rfl⟩
/-- is the pause of t over at this minute? -/
def rstB (M : MS) (t : Nat) : Bool := decide (M 2 t = nI 10 ∧ M 8 t = 0 ∧ M 19 t = nI 4 ∧ M 28 (6 * t + nN M 27 t - 1) = M 0 0)
def rstF : Nat → Nat → MS → MS
  | 0, _, M => M
  | q + 1, t, M => rstF q (t + 1) (if rstB M t = true then up2 (up2 M 19 t (nI 1)) 20 t (M 0 0) else M)
def rstM (n : Nat) (M : MS) : MS := rstF n 1 M
theorem r_rests (d : Nat) (G : GH) (x : Nat) (ra : Nat → Nat) (M : MS) (n : Nat) (hR : RR G x ra M) (hn : M 1 0 = nI n) (hn2 : n ≤ 200) (hp : ∀ t, t ≤ n → ∃ k, M 27 t = nI k ∧ k ≤ 5) : Cd l yX9_rests cX9_rests 2 none d 0 0 Y [.inr (.inr (some x))] G (fun r G' => r = none ∧ RR G' x ra (rstM n M)) := by
  refine Ct.of (ini := False) (by decide +kernel) False.elim rfl (Nat.le_of_ble_eq_true rfl) ?_
  intro p e s m args below meth c C X
  refine b_X9_rests_0.go C ⟨trivial, ?_⟩
  refine (show ∀ (q t : Nat) (G1 : GH) (M1 : MS), t + q = n + 1 → 1 ≤ t → RR G1 x ra M1 → (∀ f, f ≠ 19 → f ≠ 20 → M1 f = M f) → rstM n M = rstF q t M1 → V p l e (RM d 0 0) s m args below meth c Y (GA G s.heap.size) (QM below args s (RM d 0 0) Y G (fun r G' => r = none ∧ RR G' x ra (rstM n M))) 2 G1 0 0 [some (.inr (.inr (some x))), some (.inl (nI t))] [] from ?_) n 1 G M (by omega) (by omega) hR (fun _ _ _ => rfl) rfl
  intro q
  induction q with
  | zero =>
    intro t G1 M1 ht ht1 R1 hM hs
    have hn' : M1 1 0 = nI n := by rw [hM 1 (by decide) (by decide)]; exact hn
    refine b_X9_rests_2.go C ⟨_, R1.1, fun h2 => ⟨trivial, ?_⟩, fun h => absurd (show (M1 1 0) < (nI t) by rw [hn']; exact nI_lt (by omega) (by omega)) h⟩
    exact V_vret C X d_X9_rests_88 (Nat.zero_le _) (Nat.zero_le _) ⟨rfl, by rw [hs, rstF]; exact R1⟩
  | succ q ih =>
    intro t G1 M1 ht ht1 R1 hM hs
    have hn' : M1 1 0 = nI n := by rw [hM 1 (by decide) (by decide)]; exact hn
    obtain ⟨k, hk, hk2⟩ := hp t (by omega)
    have hk' : M1 27 t = nI k := by rw [hM 27 (by decide) (by decide)]; exact hk
    have ek : nN M1 27 t = k := nN_of hk' (by omega)
    have skip : rstB M1 t = false → V p l e (RM d 0 0) s m args below meth c Y (GA G s.heap.size) (QM below args s (RM d 0 0) Y G (fun r G' => r = none ∧ RR G' x ra (rstM n M))) 82 G1 0 0 [some (.inr (.inr (some x))), some (.inl (nI t))] [] := by
      intro hb
      refine b_X9_rests_82.go C ⟨_, nI_1 _, trivial, ?_⟩
      exact ih (t + 1) G1 M1 (by omega) (by omega) R1 hM (by rw [hs, rstF, hb]; rfl)
    refine b_X9_rests_2.go C ⟨_, R1.1, fun h => absurd (show nI n < nI t from (by have h9 : (M1 1 0) < (nI t) := h; rw [hn'] at h9; exact h9)) (nI_nlt (by omega) (by omega)), fun h2 => ⟨trivial, ?_⟩⟩
    refine b_X9_rests_10.go C ⟨_, R1.1, _, _, R1.2.1 2 (by decide) rfl, t, rfl, by show t < 201; omega, lb rfl, _, rfl, fun h10 => ⟨trivial, ?_⟩, fun h10 => ⟨trivial, ?_⟩⟩
    · exact skip (decide_eq_false (fun h => h10 h.1))
    refine b_X9_rests_21.go C ⟨_, R1.1, _, _, R1.2.1 8 (by decide) rfl, t, rfl, by show t < 201; omega, lb rfl, _, rfl, fun h21 => ⟨trivial, ?_⟩, fun h21 => ⟨trivial, ?_⟩⟩
    · exact skip (decide_eq_false (fun h => h21 h.2.1))
    refine b_X9_rests_30.go C ⟨_, R1.1, _, _, R1.2.1 19 (by decide) rfl, t, rfl, by show t < 201; omega, lb rfl, _, rfl, fun h30 => ⟨trivial, ?_⟩, fun h30 => ⟨trivial, ?_⟩⟩
    · exact skip (decide_eq_false (fun h => h30 h.2.2.1))
    refine b_X9_rests_40.go C ⟨_, R1.1, _, pk_mul _ _, _, R1.1, _, _, R1.2.1 27 (by decide) rfl, t, rfl, by show t < 201; omega, lb rfl, _, hk', _, nI_add _ _, _, pk_sub (by omega), _, _, R1.2.1 28 (by decide) rfl, (6 * t + k) - 1, rfl, by show (6 * t + k) - 1 < 1206; omega, lb rfl, _, rfl, _, R1.1, fun h40 => ⟨trivial, ?_⟩, fun h40 => ⟨trivial, ?_⟩⟩
    · exact skip (decide_eq_false (fun h => h40 (by have h9 := h.2.2.2; rw [ek] at h9; exact h9)))
    have hb : rstB M1 t = true := decide_eq_true ⟨h10, h21, h30, by rw [ek]; exact h40⟩
    have R1_ := R1.st 19 t (nI 1) (by decide) rfl
    have R2_ := R1_.st 20 t (M1 0 0) (by decide) rfl
    refine b_X9_rests_65.go C ⟨_, R1.1, _, _, R1.2.1 19 (by decide) rfl, t, rfl, by show t < 201; omega, lb rfl, _, R1_.1, _, R1_.1, _, _, R1_.2.1 20 (by decide) rfl, t, rfl, by show t < 201; omega, lb rfl, trivial, ?_⟩
    refine b_X9_rests_82.go C ⟨_, nI_1 _, trivial, ?_⟩
    exact ih (t + 1) _ _ (by omega) (by omega) R2_ (fun f h1 h2 => by rw [up2_f h2, up2_f h1]; exact hM f h1 h2) (by rw [hs, rstF, if_pos hb])
end REFR
