/-! the reference: turn, run, cooks, begins -/
section REFV
variable {l : Launch} {Y : YT}
/-- the upmost work of cook c -/
def upY (M : MS) (c : Nat) : Nat := (upN M c).toNatClampNeg
/-- a cook who waits for the input of y helps -/
def hlpM (n : Nat) (M : MS) (c y : Nat) : MS := up2 (tkeM n M c (iN M y 0)) 48 c (if bstN n (tkH n M (iN M y 0)) (iN M y 0) = 0 then tkeM n M c (iN M y 0) 48 c else tkeM n M c (iN M y 0) 48 c + nI 1)
/-- the upmost work y goes on -/
def resM (n : Nat) (M : MS) (y : Nat) : MS := gonM n (noteM M (nN M 53 0) (nI y) (nI 6)) y
def trnF (n c : Nat) : Nat → MS → MS
  | 0, M => M
  | q + 1, M => if upY M c = 0 then tkeM n M c 0 else if M 19 (upY M c) = nI 3 then (if M 8 (iN M (upY M c) 0) = 0 then hlpM n M c (upY M c) else if resM n M (upY M c) 8 (upY M c) = 0 then resM n M (upY M c) else trnF n c q (resM n M (upY M c))) else M
def trnM (n c : Nat) (M : MS) : MS := trnF n c 201 M
/-- what a turn keeps -/
def TnP (n k : Nat) (I : Nat → MS → Prop) : Prop := (∀ M c u, JJ I M → 1 ≤ c → c ≤ k → u ≤ n → JJ I (tkeM n M c u)) ∧ (∀ M c v, JJ I M → JJ I (up2 M 48 c v)) ∧
  (∀ M c y, JJ I M → 1 ≤ c → c ≤ k → upN M c = nI y → 1 ≤ y → y ≤ n → M 19 y = nI 3 → 1 ≤ kI M y ∧ (¬ M 8 (iN M y 0) = 0 → markOk (noteM M (nN M 53 0) (nI y) (nI 6)) y ∧ (M 8 (iN M y 0) = nI 1 → JJ I (gonV (noteM M (nN M 53 0) (nI y) (nI 6)) y)) ∧ (¬ M 8 (iN M y 0) = nI 1 → JJ I (gonE (noteM M (nN M 53 0) (nI y) (nI 6)) y)) ∧ (¬ resM n M y 8 y = 0 → nN M 16 0 < nN (resM n M y) 16 0)))
set_option maxHeartbeats 2000000 in
theorem r_turn (d : Nat) (G : GH) (x : Nat) (ra : Nat → Nat) (M : MS) (n k0 w0 c0 : Nat) (m3 m4 : Nat → Int32) (I : Nat → MS → Prop) (hP : MP n k0 w0 m3 m4 I) (hT : TnP n k0 I) (hR : RR G x ra M) (hJ : JJ I M) (hc1 : 1 ≤ c0) (hc2 : c0 ≤ k0) : Cd l yX9_turn cX9_turn 4 none (d + 10) 0 0 Y [.inr (.inr (some x)), .inl (nI c0)] G (fun r G' => r = none ∧ RR G' x ra (trnM n c0 M) ∧ JJ I (trnM n c0 M)) := by
  refine Ct.of (ini := False) (by decide +kernel) False.elim rfl (Nat.le_of_ble_eq_true rfl) ?_
  intro p e s m args below meth c C X
  have hn2 := hP.1
  have hk12 := hP.2.1
  have fin : ∀ (G1 : GH) (o : Option AV), RR G1 x ra (trnM n c0 M) → JJ I (trnM n c0 M) → V p l e (RM (d + 10) 0 0) s m args below meth c Y (GA G s.heap.size) (QM below args s (RM (d + 10) 0 0) Y G (fun r G' => r = none ∧ RR G' x ra (trnM n c0 M) ∧ JJ I (trnM n c0 M))) 132 G1 0 0 [some (.inr (.inr (some x))), some (.inl (nI c0)), some (.inl (nI 0)), o] [] := by
    intro G1 o R1 J1
    refine b_X9_turn_132.go C ⟨trivial, ?_⟩
    refine b_X9_turn_2.go C ⟨fun h2 => ⟨trivial, ?_⟩, fun h => absurd nI_0 h⟩
    exact V_vret C X d_X9_turn_135 (Nat.zero_le _) (Nat.zero_le _) ⟨rfl, R1, J1⟩
  refine b_X9_turn_0.go C ⟨trivial, ?_⟩
  refine (show ∀ (q : Nat) (G1 : GH) (M1 : MS) (o : Option AV), 201 ≤ nN M1 16 0 + q → RR G1 x ra M1 → JJ I M1 → trnM n c0 M = trnF n c0 q M1 → V p l e (RM (d + 10) 0 0) s m args below meth c Y (GA G s.heap.size) (QM below args s (RM (d + 10) 0 0) Y G (fun r G' => r = none ∧ RR G' x ra (trnM n c0 M) ∧ JJ I (trnM n c0 M))) 2 G1 0 0 [some (.inr (.inr (some x))), some (.inl (nI c0)), some (.inl (nI 1)), o] [] from ?_) 201 G M none (by omega) hR hJ rfl
  intro q
  induction q with
  | zero =>
    intro G1 M1 o hq R1 J1 hs
    exfalso
    obtain ⟨dt, hd, hI⟩ := J1
    obtain ⟨-, -, -, -, e0, dt', he, he2, -⟩ := (hP.2.2.1.1.1 dt).2.1 M1 hI
    rw [nN_of he (by omega)] at hq
    omega
  | succ q ih =>
    intro G1 M1 o hq R1 J1 hs
    obtain ⟨hn, hcook, -, hin, ⟨g, hg, hg2⟩, ⟨f0, hf, hf2⟩, -, -, -, hup⟩ := hP.2.2.2 M1 J1
    obtain ⟨q1, hq1, hq2, y, hy, hy2⟩ := hup c0 (by omega)
    have ey : upY M1 c0 = y := by rw [upY, hy2, nI_clamp (by omega)]
    have eg : nN M1 53 0 = g := nN_of hg (by omega)
    refine b_X9_turn_2.go C ⟨fun h => absurd h (by decide +kernel), fun h2 => ⟨trivial, ?_⟩⟩
    refine b_X9_turn_6.go C ⟨trivial, ?_⟩
    refine k_X9_turn_8.go C X (r_upmost d G1 x ra M1 c0 q1 R1 (by omega) hq1 hq2) (rest := []) rfl rfl rfl (fun _ => ⟨x, 9, _, rfl, R1.1, by decide⟩) (lb rfl) (Rq.of (by omega) (by decide) (Nat.le_refl _) (Nat.le_refl _)) ?_
    rintro r G9 ⟨h9, rfl⟩
    replace h9 := h9.symm
    subst h9
    rw [hy2]
    refine b_X9_turn_11.go C ⟨fun h11 => ⟨trivial, ?_⟩, fun h11 => ⟨trivial, ?_⟩⟩
    rotate_left
    · have hy0 : y = 0 := (nI_eq (by omega) (by omega)).mp (by have h9 : (nI y = 0) := h11; rw [nI_0.symm] at h9; exact h9)
      refine b_X9_turn_16.go C ⟨trivial, ?_⟩
      refine k_X9_turn_19.go C X (r_take (d + 8) G1 x ra M1 n c0 0 q1 g R1 hn hn2 (by omega) (by omega) hq1 hq2 hg hg2 hin) (rest := []) rfl rfl rfl (fun _ => ⟨x, 9, _, rfl, R1.1, by decide⟩) (lb rfl) (Rq.of (by omega) (by decide) (Nat.le_refl _) (Nat.le_refl _)) ?_
      rintro r G2 ⟨R2, rfl⟩
      refine b_X9_turn_22.go C ⟨trivial, ?_⟩
      have e2 : trnM n c0 M = tkeM n M1 c0 0 := by rw [hs, trnF, ey, if_pos hy0]
      exact fin G2 _ (by rw [e2]; exact R2) (by rw [e2]; exact hT.1 M1 c0 0 J1 hc1 hc2 (by omega))
    have hy0 : ¬ y = 0 := fun q9 => absurd (congrArg nI q9) (by have h9 : ¬ (nI y = 0) := h11; rw [nI_0.symm] at h9; exact h9)
    obtain ⟨t1, t2⟩ : True ∧ True := ⟨trivial, trivial⟩
    refine b_X9_turn_28.go C ⟨_, R1.1, _, _, R1.2.1 19 (by decide) rfl, y, rfl, by show y < 201; omega, lb rfl, _, rfl, fun h28 => ⟨trivial, ?_⟩, fun h28 => ⟨trivial, ?_⟩⟩
    rotate_left
    · refine b_X9_turn_38.go C ⟨trivial, ?_⟩
      have e2 : trnM n c0 M = M1 := by rw [hs, trnF, ey, if_neg hy0, if_neg h28]
      exact fin G1 _ (by rw [e2]; exact R1) (by rw [e2]; exact J1)
    obtain ⟨hk1, hgo⟩ := hT.2.2 M1 c0 y J1 hc1 hc2 hy2 (by omega) hy h28
    obtain ⟨⟨hy3, hi4, hi5, hij⟩, hil⟩ := hin y hy
    obtain ⟨hi, hi1, hi2⟩ := hij 0 hk1
    have hi3 := hil 0 hk1
    refine b_X9_turn_43.go C ⟨_, R1.1, _, R1.1, _, pk_mul _ _, _, _, R1.2.1 3 (by decide) rfl, 24 * y, rfl, by show 24 * y < 4824; omega, lb rfl, _, hi, _, _, R1.2.1 8 (by decide) rfl, iN M1 y 0, rfl, by show iN M1 y 0 < 201; omega, lb rfl, _, rfl, fun h43 => ⟨trivial, ?_⟩, fun h43 => ⟨trivial, ?_⟩⟩
    · obtain ⟨mk, gV, gE, gI⟩ := hgo h43
      refine b_X9_turn_105.go C ⟨trivial, ?_⟩
      refine k_X9_turn_109.go C X (r_note (d + 8) G1 x ra M1 g (nI y) (nI 6) R1 hg hg2) (rest := []) rfl rfl rfl (fun _ => ⟨x, 9, _, rfl, R1.1, by decide⟩) (lb rfl) (Rq.of (by omega) (by decide) (Nat.le_refl _) (Nat.le_refl _)) ?_
      rintro r G2 ⟨rfl, R2⟩
      rw [← eg] at R2
      refine b_X9_turn_112.go C ⟨trivial, ?_⟩
      refine k_X9_turn_114.go C X (r_goesOn d G2 x ra _ y n f0 m3 m4 I hP.2.2.1 R2 hy ⟨hy3, hi4, hi5, hij⟩ hk1 mk hf hf2 gV gE) (rest := []) rfl rfl rfl (fun _ => ⟨x, 9, _, rfl, R2.1, by decide⟩) (lb rfl) (Rq.of (by omega) (by decide) (Nat.le_refl _) (Nat.le_refl _)) ?_
      rintro r G3 ⟨rfl, R3, J3⟩
      have R4 : RR G3 x ra (resM n M1 y) := R3
      have J4 : JJ I (resM n M1 y) := J3
      refine b_X9_turn_117.go C ⟨_, R4.1, _, _, R4.2.1 8 (by decide) rfl, y, rfl, by show y < 201; omega, lb rfl, _, rfl, fun h117 => ⟨trivial, ?_⟩, fun h117 => ⟨trivial, ?_⟩⟩
      · refine b_X9_turn_130.go C ⟨trivial, ?_⟩
        refine b_X9_turn_131.go C ⟨trivial, ?_⟩
        have e2 : trnM n c0 M = resM n M1 y := by rw [hs, trnF, ey, if_neg hy0, if_pos h28, if_neg h43, if_pos h117]
        exact fin G3 _ (by rw [e2]; exact R4) (by rw [e2]; exact J4)
      · refine b_X9_turn_126.go C ⟨trivial, ?_⟩
        refine b_X9_turn_131.go C ⟨trivial, ?_⟩
        refine b_X9_turn_132.go C ⟨trivial, ?_⟩
        have h8 := gI h117
        exact ih G3 _ _ (by omega) R4 J4 (by rw [hs, trnF, ey, if_neg hy0, if_pos h28, if_neg h43, if_neg h117])
    · refine b_X9_turn_60.go C ⟨_, R1.1, _, R1.1, _, pk_mul _ _, _, _, R1.2.1 3 (by decide) rfl, 24 * y, rfl, by show 24 * y < 4824; omega, lb rfl, _, hi, trivial, ?_⟩
      refine k_X9_turn_76.go C X (r_take (d + 8) G1 x ra M1 n c0 (iN M1 y 0) q1 g R1 hn hn2 (by omega) (by omega) hq1 hq2 hg hg2 hin) (rest := [.inl (nI c0), .inr (.inr (some (ra 48)))]) rfl rfl rfl (fun _ => ⟨x, 9, _, rfl, R1.1, by decide⟩) (lb rfl) (Rq.of (by omega) (by decide) (Nat.le_refl _) (Nat.le_refl _)) ?_
      rintro r G2 ⟨R2, rfl⟩
      have put : ∀ z : Int32, z = (if bstN n (tkH n M1 (iN M1 y 0)) (iN M1 y 0) = 0 then tkeM n M1 c0 (iN M1 y 0) 48 c0 else tkeM n M1 c0 (iN M1 y 0) 48 c0 + nI 1) → V p l e (RM (d + 10) 0 0) s m args below meth c Y (GA G s.heap.size) (QM below args s (RM (d + 10) 0 0) Y G (fun r G' => r = none ∧ RR G' x ra (trnM n c0 M) ∧ JJ I (trnM n c0 M))) 99 G2 0 0 [some (.inr (.inr (some x))), some (.inl (nI c0)), some (.inl (nI 1)), some (.inl (nI y))] [.inl z, .inl (nI c0), .inr (.inr (some (ra 48)))] := by
        intro z hz
        have R1_ := R2.st 48 c0 z (by decide) rfl
        refine b_X9_turn_99.go C ⟨_, _, R2.2.1 48 (by decide) rfl, c0, rfl, by show c0 < 13; omega, lb rfl, trivial, ?_⟩
        have e2 : trnM n c0 M = up2 (tkeM n M1 c0 (iN M1 y 0)) 48 c0 z := by rw [hs, trnF, ey, if_neg hy0, if_pos h28, if_pos h43, hlpM, ← hz]
        exact fin _ _ (by rw [e2]; exact R1_) (by rw [e2]; exact hT.2.1 _ c0 z (hT.1 M1 c0 _ J1 hc1 hc2 (by omega)))
      refine b_X9_turn_79.go C ⟨fun h79 => ⟨trivial, ?_⟩, fun h79 => ⟨trivial, ?_⟩⟩
      · refine b_X9_turn_93.go C ⟨_, R2.1, _, _, R2.2.1 48 (by decide) rfl, c0, rfl, by show c0 < 13; omega, lb rfl, _, rfl, trivial, ?_⟩
        exact put _ (by rw [if_pos (Decidable.of_not_not (of_decide_eq_false (bI_0 h79)))])
      · refine b_X9_turn_82.go C ⟨_, R2.1, _, _, R2.2.1 48 (by decide) rfl, c0, rfl, by show c0 < 13; omega, lb rfl, _, rfl, _, rfl, trivial, ?_⟩
        exact put _ (by rw [if_neg (of_decide_eq_true (bI_1 h79))])
def rnT (n : Nat) : Nat → Nat → MS → MS
  | 0, _, M => M
  | q + 1, c, M => rnT n q (c + 1) (trnM n c M)
/-- the minute w -/
def rnS (n k w : Nat) (M : MS) : MS := up2 (idlM k (rnT n k 1 (rstM n (lmM n (ovM n (coM n M)))))) 0 0 (nI (w + 1))
def rnF (n k : Nat) : Nat → Nat → MS → MS
  | 0, _, M => M
  | q + 1, w, M => rnF n k q (w + 1) (rnS n k w M)
def runB (M : MS) (v : Int32) : Bool := decide ((M 0 0 ≤ v ∧ v ≤ nI 10000) ∧ v - M 0 0 ≤ nI 400)
def runM (n k : Nat) (M : MS) (v : Int32) : MS := if runB M v = true then rnF n k (v.toNatClampNeg - nN M 0 0) (nN M 0 0) M else M
def runC (M : MS) (v : Int32) : Int32 := if runB M v = true then v else -1
def RnP (n k : Nat) (m3 m4 : Nat → Int32) (I : Nat → Nat → MS → Prop) : Prop := ∀ w, w ≤ 10000 → MP n k w m3 m4 (I w) ∧ (∀ M t, JJ (I w) M → 1 ≤ t → t ≤ n → M 2 t = nI 8 → M 8 t = 0 → JJ (I w) (lmE M t)) ∧ OvP n (I w) ∧ TnP n k (I w) ∧ (∀ M, JJ (I w) M → JJ (I w) (rstM n M)) ∧ (∀ M, JJ (I w) M → JJ (I w) (idlM k M)) ∧ (w < 10000 → ∀ M, JJ (I w) M → JJ (I (w + 1)) (up2 M 0 0 (nI (w + 1))))
set_option maxHeartbeats 1000000 in
theorem r_run (d : Nat) (G : GH) (x : Nat) (ra : Nat → Nat) (M : MS) (n k0 w0 : Nat) (m3 m4 : Nat → Int32) (I : Nat → Nat → MS → Prop) (hP : RnP n k0 m3 m4 I) (v : Int32) (hR : RR G x ra M) (hw0 : w0 ≤ 10000) (hJ : JJ (I w0) M) : Cd l yX9_run cX9_run 3 (some .int) (d + 12) 0 0 Y [.inr (.inr (some x)), .inl v] G (fun r G' => RR G' x ra (runM n k0 M v) ∧ r = some (.inl (runC M v)) ∧ ∃ w, w ≤ 10000 ∧ JJ (I w) (runM n k0 M v)) := by
  refine Ct.of (ini := False) (by decide +kernel) False.elim rfl (Nat.le_of_ble_eq_true rfl) ?_
  intro p e s m args below meth c C X
  have hw : M 0 0 = nI w0 := ((hP w0 hw0).1.2.2.2 M hJ).2.2.1
  have ew : nN M 0 0 = w0 := nN_of hw (by omega)
  have bad : runB M v = false → V p l e (RM (d + 12) 0 0) s m args below meth c Y (GA G s.heap.size) (QM below args s (RM (d + 12) 0 0) Y G (fun r G' => RR G' x ra (runM n k0 M v) ∧ r = some (.inl (runC M v)) ∧ ∃ w, w ≤ 10000 ∧ JJ (I w) (runM n k0 M v))) 26 G 0 0 [some (.inr (.inr (some x))), some (.inl v), none] [] := by
    intro hb
    refine b_X9_run_26.go C ⟨trivial, ?_⟩
    exact V_iret C X d_X9_run_27 (Nat.zero_le _) (Nat.zero_le _) ⟨by rw [runM, hb]; exact hR, by rw [runC, hb]; rfl, w0, hw0, by rw [runM, hb]; exact hJ⟩
  refine b_X9_run_0.go C ⟨_, hR.1, trivial, ?_⟩
  refine k_X9_run_8.go C X (r_in (d + 8) G v (M 0 0) (nI 10000)) (rest := []) rfl rfl rfl (fun h => absurd rfl h) (lb rfl) (Rq.of (by omega) (by decide) (Nat.le_refl _) (Nat.le_refl _)) ?_
  rintro r G9 ⟨h9, rfl⟩
  replace h9 := h9.symm
  subst h9
  refine b_X9_run_11.go C ⟨fun h11 => ⟨trivial, ?_⟩, fun h11 => ⟨trivial, ?_⟩⟩
  · exact bad (decide_eq_false (fun h => of_decide_eq_false (bI_0 h11) h.1))
  have h1 := of_decide_eq_true (bI_1 h11)
  refine b_X9_run_14.go C ⟨_, hR.1, _, rfl, fun h14 => ⟨trivial, ?_⟩, fun h14 => ⟨trivial, ?_⟩⟩
  rotate_left
  · exact bad (decide_eq_false (fun h => h14 h.2))
  have hb : runB M v = true := decide_eq_true ⟨h1, h14⟩
  obtain ⟨u, hu1, hu2, rfl⟩ := in_of (a := w0) (b := 10000) (by omega) (hw ▸ h1) (by omega)
  have eu : (nI u).toNatClampNeg = u := nI_clamp (by omega)
  refine (show ∀ (q w : Nat) (G1 : GH) (M1 : MS) (o : Option AV), w + q = u → RR G1 x ra M1 → JJ (I w) M1 → runM n k0 M (nI u) = rnF n k0 q w M1 → V p l e (RM (d + 12) 0 0) s m args below meth c Y (GA G s.heap.size) (QM below args s (RM (d + 12) 0 0) Y G (fun r G' => RR G' x ra (runM n k0 M (nI u)) ∧ r = some (.inl (runC M (nI u))) ∧ ∃ w, w ≤ 10000 ∧ JJ (I w) (runM n k0 M (nI u)))) 28 G1 0 0 [some (.inr (.inr (some x))), some (.inl (nI u)), o] [] from ?_) (u - w0) w0 G M none (by omega) hR hJ (by rw [runM, if_pos hb, eu, ew])
  intro q
  induction q with
  | zero =>
    intro w G1 M1 o hq R1 J1 hs
    have h0 : M1 0 0 = nI w := ((hP w (by omega)).1.2.2.2 M1 J1).2.2.1
    refine b_X9_run_28.go C ⟨_, R1.1, fun h28 => ⟨trivial, ?_⟩, fun h => absurd (show (nI u) ≤ (M1 0 0) by rw [h0]; exact nI_le (by omega) (by omega)) h⟩
    refine b_X9_run_90.go C ⟨_, R1.1, trivial, ?_⟩
    exact V_iret C X d_X9_run_94 (Nat.zero_le _) (Nat.zero_le _) ⟨by rw [hs, rnF]; exact R1, by rw [runC, if_pos hb, h0, show w = u by omega], w, by omega, by rw [hs, rnF]; exact J1⟩
  | succ q ih =>
    intro w G1 M1 o hq R1 J1 hs
    obtain ⟨P1, P2, P3, P4, P5, P6, P7⟩ := hP w (by omega)
    have h0 : M1 0 0 = nI w := (P1.2.2.2 M1 J1).2.2.1
    refine b_X9_run_28.go C ⟨_, R1.1, fun h => absurd (show u ≤ w from (nI_leI (by omega) (by omega)).mp (by have h9 : (nI u) ≤ (M1 0 0) := h; rw [h0] at h9; exact h9)) (by omega), fun h28 => ⟨trivial, ?_⟩⟩
    refine b_X9_run_36.go C ⟨trivial, ?_⟩
    refine k_X9_run_37.go C X (r_callsOff (d + 2) G1 x ra M1 n k0 w m3 m4 (I w) P1 R1 J1) (rest := []) rfl rfl rfl (fun _ => ⟨x, 9, _, rfl, R1.1, by decide⟩) (lb rfl) (Rq.of (by omega) (by decide) (Nat.le_refl _) (Nat.le_refl _)) ?_
    rintro r G2 ⟨rfl, R2, J2⟩
    refine b_X9_run_40.go C ⟨trivial, ?_⟩
    refine k_X9_run_41.go C X (r_overs d G2 x ra _ n k0 w m3 m4 (I w) P1 P3 R2 J2) (rest := []) rfl rfl rfl (fun _ => ⟨x, 9, _, rfl, R2.1, by decide⟩) (lb rfl) (Rq.of (by omega) (by decide) (Nat.le_refl _) (Nat.le_refl _)) ?_
    rintro r G3 ⟨rfl, R3, J3⟩
    refine b_X9_run_44.go C ⟨trivial, ?_⟩
    refine k_X9_run_45.go C X (r_limits (d + 2) G3 x ra _ n k0 w m3 m4 (I w) P1 P2 R3 J3) (rest := []) rfl rfl rfl (fun _ => ⟨x, 9, _, rfl, R3.1, by decide⟩) (lb rfl) (Rq.of (by omega) (by decide) (Nat.le_refl _) (Nat.le_refl _)) ?_
    rintro r G4 ⟨rfl, R4, J4⟩
    refine b_X9_run_48.go C ⟨trivial, ?_⟩
    refine k_X9_run_49.go C X (r_rests (d + 2) G4 x ra _ n R4 (P1.2.2.2 _ J4).1 P1.1 (P1.2.2.2 _ J4).2.2.2.2.2.2.2.2.1) (rest := []) rfl rfl rfl (fun _ => ⟨x, 9, _, rfl, R4.1, by decide⟩) (lb rfl) (Rq.of (by omega) (by decide) (Nat.le_refl _) (Nat.le_refl _)) ?_
    rintro r G5 ⟨rfl, R5⟩
    have J5 := P5 _ J4
    refine b_X9_run_52.go C ⟨trivial, ?_⟩
    refine (show ∀ (q' c' : Nat) (G6 : GH) (M6 : MS), c' + q' = k0 + 1 → 1 ≤ c' → RR G6 x ra M6 → JJ (I w) M6 → rnT n k0 1 (rstM n (lmM n (ovM n (coM n M1)))) = rnT n q' c' M6 → V p l e (RM (d + 12) 0 0) s m args below meth c Y (GA G s.heap.size) (QM below args s (RM (d + 12) 0 0) Y G (fun r G' => RR G' x ra (runM n k0 M (nI u)) ∧ r = some (.inl (runC M (nI u))) ∧ ∃ w, w ≤ 10000 ∧ JJ (I w) (runM n k0 M (nI u)))) 54 G6 0 0 [some (.inr (.inr (some x))), some (.inl (nI u)), some (.inl (nI c'))] [] from ?_) k0 1 G5 _ (by omega) (by omega) R5 J5 rfl
    intro q'
    induction q' with
    | zero =>
      intro c' G6 M6 hc hc1 R6 J6 hs6
      have F6 := P1.2.2.2 M6 J6
      have hk12 := P1.2.1
      refine b_X9_run_54.go C ⟨_, R6.1, fun h54 => ⟨trivial, ?_⟩, fun h => absurd (show (M6 45 0) < (nI c') by rw [F6.2.1]; exact nI_lt (by omega) (by omega)) h⟩
      refine b_X9_run_73.go C ⟨trivial, ?_⟩
      refine k_X9_run_74.go C X (r_idles (d + 2) G6 x ra M6 k0 R6 F6.2.1 P1.2.1 (fun c9 h9 => by obtain ⟨q9, a1, a2, y9, a3, a4⟩ := F6.2.2.2.2.2.2.2.2.2 c9 h9; exact ⟨⟨q9, a1, a2⟩, y9, Nat.le_trans a3 P1.1, a4⟩)) (rest := []) rfl rfl rfl (fun _ => ⟨x, 9, _, rfl, R6.1, by decide⟩) (lb rfl) (Rq.of (by omega) (by decide) (Nat.le_refl _) (Nat.le_refl _)) ?_
      rintro r G7 ⟨rfl, R7⟩
      have J7 := P6 M6 J6
      have h7 : idlM k0 M6 0 0 = nI w := (P1.2.2.2 _ J7).2.2.1
      have R1_ := R7.s0 (nI (w + 1))
      refine b_X9_run_77.go C ⟨_, R7.1, _, (congrArg (· + nI 1) h7).trans (nI_add _ _), _, R7.1, trivial, ?_⟩
      exact ih (w + 1) _ _ _ (by omega) R1_ (P7 (by omega) _ J7) (by rw [hs, rnF, rnS, hs6, rnT])
    | succ q' ih' =>
      intro c' G6 M6 hc hc1 R6 J6 hs6
      have F6 := P1.2.2.2 M6 J6
      have hk12 := P1.2.1
      refine b_X9_run_54.go C ⟨_, R6.1, fun h => absurd (show nI k0 < nI c' from (by have h9 : (M6 45 0) < (nI c') := h; rw [F6.2.1] at h9; exact h9)) (nI_nlt (by omega) (by omega)), fun h54 => ⟨trivial, ?_⟩⟩
      refine b_X9_run_62.go C ⟨trivial, ?_⟩
      refine k_X9_run_64.go C X (r_turn (d + 1) G6 x ra M6 n k0 w c' m3 m4 (I w) P1 P4 R6 J6 (by omega) (by omega)) (rest := []) rfl rfl rfl (fun _ => ⟨x, 9, _, rfl, R6.1, by decide⟩) (lb rfl) (Rq.of (by omega) (by decide) (Nat.le_refl _) (Nat.le_refl _)) ?_
      rintro r G7 ⟨rfl, R7, J7⟩
      refine b_X9_run_67.go C ⟨_, nI_1 _, trivial, ?_⟩
      exact ih' (c' + 1) G7 _ (by omega) (by omega) R7 J7 (by rw [hs6, rnT])
end REFV
