/-! the reference: callsOff, limits, overs, turn, run -/
section REFU
variable {l : Launch} {Y : YT}
/-- what always holds: n stages, k cooks, the minute w -/
def Fc (n k w : Nat) (M : MS) : Prop := M 1 0 = nI n ∧ M 45 0 = nI k ∧ M 0 0 = nI w ∧ (∀ t, t ≤ n → inOk M t ∧ ∀ j, j < kI M t → iN M t j < t) ∧ (∃ g, M 53 0 = nI g ∧ g < 4000) ∧ (∃ f, M 38 0 = nI f ∧ f < 2000) ∧ (∃ a, M 40 0 = nI a ∧ a + 24 < 8000) ∧ plnOk M ∧ (∀ t, t ≤ n → ∃ q, M 27 t = nI q ∧ q ≤ 5) ∧ (∀ c, c ≤ 12 → ∃ q, M 47 c = nI q ∧ q ≤ 200 ∧ ∃ y, y ≤ n ∧ upN M c = nI y)
/-- the package of a minute -/
def MP (n k w : Nat) (m3 m4 : Nat → Int32) (I : Nat → MS → Prop) : Prop := n ≤ 200 ∧ k ≤ 12 ∧ FP n m3 m4 I ∧ ∀ M, JJ I M → Fc n k w M
theorem MP.mk_ok {n k w : Nat} {m3 m4 : Nat → Int32} {I : Nat → MS → Prop} (h : MP n k w m3 m4 I) {M : MS} {t : Nat} (hJ : JJ I M) (h1 : 1 ≤ t) (h2 : t ≤ n) (h3 : M 8 t = 0) : markOk M t ∧ JJ I (markM M t (nI 3)) := by
  obtain ⟨dt, hd, hI⟩ := hJ
  obtain ⟨a, b⟩ := (h.2.2.1.1.1 dt).2.2.2 M t hI h1 h2 h3
  exact ⟨a, dt, hd, b⟩
def coF (n : Nat) : Nat → Nat → MS → MS
  | 0, _, M => M
  | q + 1, t, M => coF n q (t + 1) (if M 14 t = M 0 0 ∧ M 8 t = 0 then folM n (markM M t (nI 3)) t else M)
def coM (n : Nat) (M : MS) : MS := coF n n 1 M
theorem r_callsOff (d : Nat) (G : GH) (x : Nat) (ra : Nat → Nat) (M : MS) (n k0 w0 : Nat) (m3 m4 : Nat → Int32) (I : Nat → MS → Prop) (hP : MP n k0 w0 m3 m4 I) (hR : RR G x ra M) (hJ : JJ I M) : Cd l yX9_callsOff cX9_callsOff 2 none (d + 9) 0 0 Y [.inr (.inr (some x))] G (fun r G' => r = none ∧ RR G' x ra (coM n M) ∧ JJ I (coM n M)) := by
  refine Ct.of (ini := False) (by decide +kernel) False.elim rfl (Nat.le_of_ble_eq_true rfl) ?_
  intro p e s m args below meth c C X
  have hn2 := hP.1
  refine b_X9_callsOff_0.go C ⟨trivial, ?_⟩
  refine (show ∀ (q t : Nat) (G1 : GH) (M1 : MS), t + q = n + 1 → 1 ≤ t → RR G1 x ra M1 → JJ I M1 → coM n M = coF n q t M1 → V p l e (RM (d + 9) 0 0) s m args below meth c Y (GA G s.heap.size) (QM below args s (RM (d + 9) 0 0) Y G (fun r G' => r = none ∧ RR G' x ra (coM n M) ∧ JJ I (coM n M))) 2 G1 0 0 [some (.inr (.inr (some x))), some (.inl (nI t))] [] from ?_) n 1 G M (by omega) (by omega) hR hJ rfl
  intro q
  induction q with
  | zero =>
    intro t G1 M1 ht ht1 R1 J1 hs
    have hn := (hP.2.2.2 M1 J1).1
    refine b_X9_callsOff_2.go C ⟨_, R1.1, fun h2 => ⟨trivial, ?_⟩, fun h => absurd (show (M1 1 0) < (nI t) by rw [hn]; exact nI_lt (by omega) (by omega)) h⟩
    exact V_vret C X d_X9_callsOff_49 (Nat.zero_le _) (Nat.zero_le _) ⟨rfl, by rw [hs, coF]; exact ⟨R1, J1⟩⟩
  | succ q ih =>
    intro t G1 M1 ht ht1 R1 J1 hs
    have hn := (hP.2.2.2 M1 J1).1
    have nx : ∀ (G2 : GH) (M2 : MS), RR G2 x ra M2 → JJ I M2 → M2 = (if M1 14 t = M1 0 0 ∧ M1 8 t = 0 then folM n (markM M1 t (nI 3)) t else M1) → V p l e (RM (d + 9) 0 0) s m args below meth c Y (GA G s.heap.size) (QM below args s (RM (d + 9) 0 0) Y G (fun r G' => r = none ∧ RR G' x ra (coM n M) ∧ JJ I (coM n M))) 43 G2 0 0 [some (.inr (.inr (some x))), some (.inl (nI t))] [] := by
      intro G2 M2 R2 J2 h2
      refine b_X9_callsOff_43.go C ⟨_, nI_1 _, trivial, ?_⟩
      exact ih (t + 1) G2 M2 (by omega) (by omega) R2 J2 (by rw [hs, coF, ← h2])
    refine b_X9_callsOff_2.go C ⟨_, R1.1, fun h => absurd (show nI n < nI t from (by have h9 : (M1 1 0) < (nI t) := h; rw [hn] at h9; exact h9)) (nI_nlt (by omega) (by omega)), fun h2 => ⟨trivial, ?_⟩⟩
    refine b_X9_callsOff_10.go C ⟨_, R1.1, _, _, R1.2.1 14 (by decide) rfl, t, rfl, by show t < 201; omega, lb rfl, _, rfl, _, R1.1, fun h10 => ⟨trivial, ?_⟩, fun h10 => ⟨trivial, ?_⟩⟩
    · exact nx G1 M1 R1 J1 (by rw [if_neg (fun h => h10 h.1)])
    refine b_X9_callsOff_23.go C ⟨_, R1.1, _, _, R1.2.1 8 (by decide) rfl, t, rfl, by show t < 201; omega, lb rfl, _, rfl, fun h23 => ⟨trivial, ?_⟩, fun h23 => ⟨trivial, ?_⟩⟩
    · exact nx G1 M1 R1 J1 (by rw [if_neg (fun h => h23 h.2)])
    obtain ⟨mk, J2⟩ := hP.mk_ok J1 ht1 (by omega) h23
    refine b_X9_callsOff_32.go C ⟨trivial, ?_⟩
    refine k_X9_callsOff_35.go C X (r_mark (d + 7) G1 x ra M1 t (nI 3) R1 mk) (rest := []) rfl rfl rfl (fun _ => ⟨x, 9, _, rfl, R1.1, by decide⟩) (lb rfl) (Rq.of (by omega) (by decide) (Nat.le_refl _) (Nat.le_refl _)) ?_
    rintro r G2 ⟨rfl, R2⟩
    refine b_X9_callsOff_38.go C ⟨trivial, ?_⟩
    refine k_X9_callsOff_40.go C X (r_followJ d G2 x ra _ t n m3 m4 I hP.2.2.1 R2 J2 (by omega)) (rest := []) rfl rfl rfl (fun _ => ⟨x, 9, _, rfl, R2.1, by decide⟩) (lb rfl) (Rq.of (by omega) (by decide) (Nat.le_refl _) (Nat.le_refl _)) ?_
    rintro r G3 ⟨rfl, R3, J3⟩
    exact nx G3 _ R3 J3 (by rw [if_pos ⟨h10, h23⟩])
/-- a limit that is due -/
def lmE (M : MS) (t : Nat) : MS := wfM (newFM (up2 M 13 t (nI 1)) (nN M 38 0) (nI 5) (nI t) (-1)) t (nI (nN M 38 0))
def lmF (n : Nat) : Nat → Nat → MS → MS
  | 0, _, M => M
  | q + 1, t, M => lmF n q (t + 1) (if M 2 t = nI 8 ∧ M 8 t = 0 ∧ M 32 t = M 0 0 then folM n (lmE M t) t else M)
def lmM (n : Nat) (M : MS) : MS := lmF n n 1 M
theorem r_limits (d : Nat) (G : GH) (x : Nat) (ra : Nat → Nat) (M : MS) (n k0 w0 : Nat) (m3 m4 : Nat → Int32) (I : Nat → MS → Prop) (hP : MP n k0 w0 m3 m4 I) (hL : ∀ M t, JJ I M → 1 ≤ t → t ≤ n → M 2 t = nI 8 → M 8 t = 0 → JJ I (lmE M t)) (hR : RR G x ra M) (hJ : JJ I M) : Cd l yX9_limits cX9_limits 2 none (d + 9) 0 0 Y [.inr (.inr (some x))] G (fun r G' => r = none ∧ RR G' x ra (lmM n M) ∧ JJ I (lmM n M)) := by
  refine Ct.of (ini := False) (by decide +kernel) False.elim rfl (Nat.le_of_ble_eq_true rfl) ?_
  intro p e s m args below meth c C X
  have hn2 := hP.1
  refine b_X9_limits_0.go C ⟨trivial, ?_⟩
  refine (show ∀ (q t : Nat) (G1 : GH) (M1 : MS), t + q = n + 1 → 1 ≤ t → RR G1 x ra M1 → JJ I M1 → lmM n M = lmF n q t M1 → V p l e (RM (d + 9) 0 0) s m args below meth c Y (GA G s.heap.size) (QM below args s (RM (d + 9) 0 0) Y G (fun r G' => r = none ∧ RR G' x ra (lmM n M) ∧ JJ I (lmM n M))) 2 G1 0 0 [some (.inr (.inr (some x))), some (.inl (nI t))] [] from ?_) n 1 G M (by omega) (by omega) hR hJ rfl
  intro q
  induction q with
  | zero =>
    intro t G1 M1 ht ht1 R1 J1 hs
    have hn := (hP.2.2.2 M1 J1).1
    refine b_X9_limits_2.go C ⟨_, R1.1, fun h2 => ⟨trivial, ?_⟩, fun h => absurd (show (M1 1 0) < (nI t) by rw [hn]; exact nI_lt (by omega) (by omega)) h⟩
    exact V_vret C X d_X9_limits_73 (Nat.zero_le _) (Nat.zero_le _) ⟨rfl, by rw [hs, lmF]; exact ⟨R1, J1⟩⟩
  | succ q ih =>
    intro t G1 M1 ht ht1 R1 J1 hs
    obtain ⟨hn, -, -, -, -, ⟨f0, hf, hf2⟩, -⟩ := hP.2.2.2 M1 J1
    have ef : nN M1 38 0 = f0 := nN_of hf (by omega)
    have nx : ∀ (G2 : GH) (M2 : MS), RR G2 x ra M2 → JJ I M2 → M2 = (if M1 2 t = nI 8 ∧ M1 8 t = 0 ∧ M1 32 t = M1 0 0 then folM n (lmE M1 t) t else M1) → V p l e (RM (d + 9) 0 0) s m args below meth c Y (GA G s.heap.size) (QM below args s (RM (d + 9) 0 0) Y G (fun r G' => r = none ∧ RR G' x ra (lmM n M) ∧ JJ I (lmM n M))) 67 G2 0 0 [some (.inr (.inr (some x))), some (.inl (nI t))] [] := by
      intro G2 M2 R2 J2 h2
      refine b_X9_limits_67.go C ⟨_, nI_1 _, trivial, ?_⟩
      exact ih (t + 1) G2 M2 (by omega) (by omega) R2 J2 (by rw [hs, lmF, ← h2])
    refine b_X9_limits_2.go C ⟨_, R1.1, fun h => absurd (show nI n < nI t from (by have h9 : (M1 1 0) < (nI t) := h; rw [hn] at h9; exact h9)) (nI_nlt (by omega) (by omega)), fun h2 => ⟨trivial, ?_⟩⟩
    refine b_X9_limits_10.go C ⟨_, R1.1, _, _, R1.2.1 2 (by decide) rfl, t, rfl, by show t < 201; omega, lb rfl, _, rfl, fun h10 => ⟨trivial, ?_⟩, fun h10 => ⟨trivial, ?_⟩⟩
    · exact nx G1 M1 R1 J1 (by rw [if_neg (fun h => h10 h.1)])
    refine b_X9_limits_21.go C ⟨_, R1.1, _, _, R1.2.1 8 (by decide) rfl, t, rfl, by show t < 201; omega, lb rfl, _, rfl, fun h21 => ⟨trivial, ?_⟩, fun h21 => ⟨trivial, ?_⟩⟩
    · exact nx G1 M1 R1 J1 (by rw [if_neg (fun h => h21 h.2.1)])
    refine b_X9_limits_30.go C ⟨_, R1.1, _, _, R1.2.1 32 (by decide) rfl, t, rfl, by show t < 201; omega, lb rfl, _, rfl, _, R1.1, fun h30 => ⟨trivial, ?_⟩, fun h30 => ⟨trivial, ?_⟩⟩
    · exact nx G1 M1 R1 J1 (by rw [if_neg (fun h => h30 h.2.2)])
    obtain ⟨mk, -⟩ := hP.mk_ok J1 ht1 (by omega) h21
    have R1_ := R1.st 13 t (nI 1) (by decide) rfl
    refine b_X9_limits_43.go C ⟨_, R1.1, z1, _, _, R1.2.1 13 (by decide) rfl, t, rfl, by show t < 201; omega, lb rfl, trivial, ?_⟩
    refine k_X9_limits_56.go C X (r_newFailure d _ x ra _ f0 (nI 5) (nI t) (-1) R1_ hf hf2) (rest := [.inl (nI t), .inr (.inr (some x))]) rfl rfl rfl (fun _ => ⟨x, 9, _, rfl, R1_.1, by decide⟩) (lb rfl) (Rq.of (by omega) (by decide) (Nat.le_refl _) (Nat.le_refl _)) ?_
    rintro r G2 ⟨rfl, R2⟩
    refine k_X9_limits_59.go C X (r_withFailure (d + 6) G2 x ra _ t (nI f0) R2 mk) (rest := []) rfl rfl rfl (fun _ => ⟨x, 9, _, rfl, R2.1, by decide⟩) (lb rfl) (Rq.of (by omega) (by decide) (Nat.le_refl _) (Nat.le_refl _)) ?_
    rintro r G3 ⟨rfl, R3⟩
    have e3 : wfM (newFM (up2 M1 13 t (nI 1)) f0 (nI 5) (nI t) (-1)) t (nI f0) = lmE M1 t := by rw [lmE, ef]
    rw [e3] at R3
    refine b_X9_limits_62.go C ⟨trivial, ?_⟩
    refine k_X9_limits_64.go C X (r_followJ d G3 x ra _ t n m3 m4 I hP.2.2.1 R3 (hL M1 t J1 ht1 (by omega) h10 h21) (by omega)) (rest := []) rfl rfl rfl (fun _ => ⟨x, 9, _, rfl, R3.1, by decide⟩) (lb rfl) (Rq.of (by omega) (by decide) (Nat.le_refl _) (Nat.le_refl _)) ?_
    rintro r G4 ⟨rfl, R4, J4⟩
    exact nx G4 _ R4 J4 (by rw [if_pos ⟨h10, h21, h30⟩])
def ovA : Nat → Nat → MS → MS
  | 0, _, M => M
  | q + 1, t, M => ovA q (t + 1) (up2 M 55 t (bI (ovrB M t)))
/-- the working of t is over, or its first part -/
def ovS (n : Nat) (M : MS) (t : Nat) : MS := if M 24 t = nI 1 then hlfM n M t else wrkM n M t
def ovF (n : Nat) : Nat → Nat → MS → MS
  | 0, _, M => M
  | q + 1, t, M => ovF n q (t + 1) (if ¬ M 55 t = 0 ∧ ovrB M t = true then ovS n M t else M)
def ovM (n : Nat) (M : MS) : MS := ovF n n 1 (ovA n 1 M)
/-- what a working's end keeps -/
def OvP (n : Nat) (I : Nat → MS → Prop) : Prop := (∀ M t b, JJ I M → JJ I (up2 M 55 t (bI b))) ∧
  (∀ M t, JJ I M → 1 ≤ t → t ≤ n → ovrB M t = true → M 24 t = nI 1 → 1 ≤ kI M t ∧ (M 8 (iN M t 0) = 0 → JJ I (hlfW M t)) ∧ (M 8 (iN M t 0) = nI 1 → JJ I (gonV M t)) ∧ (¬ M 8 (iN M t 0) = 0 → ¬ M 8 (iN M t 0) = nI 1 → JJ I (gonE M t))) ∧
  (∀ M t, JJ I M → 1 ≤ t → t ≤ n → ovrB M t = true → ¬ M 24 t = nI 1 → (M 2 t = nI 11 → 1 ≤ kI M t) ∧ (∀ v, JJ I (wvM M t v)) ∧ (∀ kd, kd ≤ 15 → psB M t kd = true → JJ I (flsP M t kd)) ∧ (∀ kd, kd ≤ 15 → psB M t kd = false → JJ I (flsE M t kd)))
theorem ovr_at {M : MS} {t : Nat} (h : ovrB M t = true) : atC M t = true ∧ M 8 t = 0 := by
  have h1 := of_decide_eq_true h
  exact ⟨decide_eq_true ⟨h1.1, Or.inl h1.2.2.1⟩, h1.2.1⟩
set_option maxHeartbeats 1000000 in
theorem r_overs (d : Nat) (G : GH) (x : Nat) (ra : Nat → Nat) (M : MS) (n k0 w0 : Nat) (m3 m4 : Nat → Int32) (I : Nat → MS → Prop) (hP : MP n k0 w0 m3 m4 I) (hO : OvP n I) (hR : RR G x ra M) (hJ : JJ I M) : Cd l yX9_overs cX9_overs 2 none (d + 11) 0 0 Y [.inr (.inr (some x))] G (fun r G' => r = none ∧ RR G' x ra (ovM n M) ∧ JJ I (ovM n M)) := by
  refine Ct.of (ini := False) (by decide +kernel) False.elim rfl (Nat.le_of_ble_eq_true rfl) ?_
  intro p e s m args below meth c C X
  have hn2 := hP.1
  have second : ∀ (q t : Nat) (G1 : GH) (M1 : MS), t + q = n + 1 → 1 ≤ t → RR G1 x ra M1 → JJ I M1 → ovM n M = ovF n q t M1 → V p l e (RM (d + 11) 0 0) s m args below meth c Y (GA G s.heap.size) (QM below args s (RM (d + 11) 0 0) Y G (fun r G' => r = none ∧ RR G' x ra (ovM n M) ∧ JJ I (ovM n M))) 29 G1 0 0 [some (.inr (.inr (some x))), some (.inl (nI t))] [] := by
    intro q
    induction q with
    | zero =>
      intro t G1 M1 ht ht1 R1 J1 hs
      have hn := (hP.2.2.2 M1 J1).1
      refine b_X9_overs_29.go C ⟨_, R1.1, fun h29 => ⟨trivial, ?_⟩, fun h => absurd (show (M1 1 0) < (nI t) by rw [hn]; exact nI_lt (by omega) (by omega)) h⟩
      exact V_vret C X d_X9_overs_83 (Nat.zero_le _) (Nat.zero_le _) ⟨rfl, by rw [hs, ovF]; exact ⟨R1, J1⟩⟩
    | succ q ih =>
      intro t G1 M1 ht ht1 R1 J1 hs
      obtain ⟨hn, -, -, hin, ⟨g, hg, hg2⟩, ⟨f0, hf, hf2⟩, ⟨a0, ha, ha2⟩, hpl, h27, -⟩ := hP.2.2.2 M1 J1
      obtain ⟨k1, hk1, hk2⟩ := h27 t (by omega)
      have nx : ∀ (G2 : GH) (M2 : MS), RR G2 x ra M2 → JJ I M2 → M2 = (if ¬ M1 55 t = 0 ∧ ovrB M1 t = true then ovS n M1 t else M1) → V p l e (RM (d + 11) 0 0) s m args below meth c Y (GA G s.heap.size) (QM below args s (RM (d + 11) 0 0) Y G (fun r G' => r = none ∧ RR G' x ra (ovM n M) ∧ JJ I (ovM n M))) 77 G2 0 0 [some (.inr (.inr (some x))), some (.inl (nI t))] [] := by
        intro G2 M2 R2 J2 h2
        refine b_X9_overs_77.go C ⟨_, nI_1 _, trivial, ?_⟩
        exact ih (t + 1) G2 M2 (by omega) (by omega) R2 J2 (by rw [hs, ovF, ← h2])
      refine b_X9_overs_29.go C ⟨_, R1.1, fun h => absurd (show nI n < nI t from (by have h9 : (M1 1 0) < (nI t) := h; rw [hn] at h9; exact h9)) (nI_nlt (by omega) (by omega)), fun h29 => ⟨trivial, ?_⟩⟩
      refine b_X9_overs_37.go C ⟨_, R1.1, _, _, R1.2.1 55 (by decide) rfl, t, rfl, by show t < 201; omega, lb rfl, _, rfl, fun h37 => ⟨trivial, ?_⟩, fun h37 => ⟨trivial, ?_⟩⟩
      · exact nx G1 M1 R1 J1 (by rw [if_neg (fun h => h.1 h37)])
      refine b_X9_overs_46.go C ⟨trivial, ?_⟩
      refine k_X9_overs_48.go C X (r_isOverNow d G1 x ra M1 t R1 (by omega)) (rest := []) rfl rfl rfl (fun _ => ⟨x, 9, _, rfl, R1.1, by decide⟩) (lb rfl) (Rq.of (by omega) (by decide) (Nat.le_refl _) (Nat.le_refl _)) ?_
      rintro r G9 ⟨h9, rfl⟩
      replace h9 := h9.symm
      subst h9
      refine b_X9_overs_51.go C ⟨fun h51 => ⟨trivial, ?_⟩, fun h51 => ⟨trivial, ?_⟩⟩
      · exact nx G1 M1 R1 J1 (by rw [if_neg (fun h => by rw [bI_0 h51] at h; cases h.2)])
      have ho := bI_1 h51
      obtain ⟨hat, h8⟩ := ovr_at ho
      obtain ⟨mk, -⟩ := hP.mk_ok J1 ht1 (by omega) h8
      refine b_X9_overs_54.go C ⟨_, R1.1, _, _, R1.2.1 24 (by decide) rfl, t, rfl, by show t < 201; omega, lb rfl, _, rfl, fun h54 => ⟨trivial, ?_⟩, fun h54 => ⟨trivial, ?_⟩⟩
      · obtain ⟨e1, e2, e3, e4⟩ := hO.2.2 M1 t J1 ht1 (by omega) ho h54
        refine b_X9_overs_72.go C ⟨trivial, ?_⟩
        refine k_X9_overs_74.go C X (r_worked d G1 x ra M1 t n f0 a0 k1 g m3 m4 I hP.2.2.1 R1 (by omega) (by omega) (fun h => ⟨(hin t (by omega)).1, e1 h⟩) hpl mk hat hf hf2 ha ha2 hk1 hk2 hg hg2 e2 e3 e4) (rest := []) rfl rfl rfl (fun _ => ⟨x, 9, _, rfl, R1.1, by decide⟩) (lb rfl) (Rq.of (by omega) (by decide) (Nat.le_refl _) (Nat.le_refl _)) ?_
        rintro r G2 ⟨rfl, R2, J2⟩
        exact nx G2 _ R2 J2 (by rw [if_pos ⟨h37, ho⟩, ovS, if_neg h54])
      · obtain ⟨e1, e2, e3, e4⟩ := hO.2.1 M1 t J1 ht1 (by omega) ho h54
        refine b_X9_overs_64.go C ⟨trivial, ?_⟩
        refine k_X9_overs_66.go C X (r_half d G1 x ra M1 t n f0 g m3 m4 I hP.2.2.1 R1 (by omega) (hin t (by omega)).1 e1 mk hf hf2 hg hg2 e2 e3 e4) (rest := []) rfl rfl rfl (fun _ => ⟨x, 9, _, rfl, R1.1, by decide⟩) (lb rfl) (Rq.of (by omega) (by decide) (Nat.le_refl _) (Nat.le_refl _)) ?_
        rintro r G2 ⟨rfl, R2, J2⟩
        refine b_X9_overs_69.go C ⟨trivial, ?_⟩
        exact nx G2 _ R2 J2 (by rw [if_pos ⟨h37, ho⟩, ovS, if_pos h54])
  refine b_X9_overs_0.go C ⟨trivial, ?_⟩
  refine (show ∀ (q t : Nat) (G1 : GH) (M1 : MS), t + q = n + 1 → 1 ≤ t → RR G1 x ra M1 → JJ I M1 → ovA n 1 M = ovA q t M1 → V p l e (RM (d + 11) 0 0) s m args below meth c Y (GA G s.heap.size) (QM below args s (RM (d + 11) 0 0) Y G (fun r G' => r = none ∧ RR G' x ra (ovM n M) ∧ JJ I (ovM n M))) 2 G1 0 0 [some (.inr (.inr (some x))), some (.inl (nI t))] [] from ?_) n 1 G M (by omega) (by omega) hR hJ rfl
  intro q
  induction q with
  | zero =>
    intro t G1 M1 ht ht1 R1 J1 hs
    have hn := (hP.2.2.2 M1 J1).1
    refine b_X9_overs_2.go C ⟨_, R1.1, fun h2 => ⟨trivial, ?_⟩, fun h => absurd (show (M1 1 0) < (nI t) by rw [hn]; exact nI_lt (by omega) (by omega)) h⟩
    refine b_X9_overs_27.go C ⟨trivial, ?_⟩
    exact second n 1 G1 M1 (by omega) (by omega) R1 J1 (by rw [ovM, hs, ovA])
  | succ q ih =>
    intro t G1 M1 ht ht1 R1 J1 hs
    have hn := (hP.2.2.2 M1 J1).1
    refine b_X9_overs_2.go C ⟨_, R1.1, fun h => absurd (show nI n < nI t from (by have h9 : (M1 1 0) < (nI t) := h; rw [hn] at h9; exact h9)) (nI_nlt (by omega) (by omega)), fun h2 => ⟨trivial, ?_⟩⟩
    refine b_X9_overs_10.go C ⟨_, R1.1, trivial, ?_⟩
    refine k_X9_overs_17.go C X (r_isOverNow d G1 x ra M1 t R1 (by omega)) (rest := [.inl (nI t), .inr (.inr (some (ra 55)))]) rfl rfl rfl (fun _ => ⟨x, 9, _, rfl, R1.1, by decide⟩) (lb rfl) (Rq.of (by omega) (by decide) (Nat.le_refl _) (Nat.le_refl _)) ?_
    rintro r G9 ⟨h9, rfl⟩
    replace h9 := h9.symm
    subst h9
    have R1_ := R1.st 55 t ((bI (ovrB M1 t))) (by decide) rfl
    refine b_X9_overs_20.go C ⟨bI_z _, _, _, R1.2.1 55 (by decide) rfl, t, rfl, by show t < 201; omega, lb rfl, _, nI_1 _, trivial, ?_⟩
    exact ih (t + 1) _ _ (by omega) (by omega) R1_ (hO.1 M1 t _ J1) (by rw [hs, ovA])
end REFU
