/-! the reference: goesOn, half, fails, worked -/
section REFT
variable {l : Launch} {Y : YT}
/-- the invariant wherever dues have come -/
def JJ (I : Nat → MS → Prop) (M : MS) : Prop := ∃ dt, dt ≤ 200 ∧ I dt M
/-- the package of follow -/
def FP (n : Nat) (m3 m4 : Nat → Int32) (I : Nat → MS → Prop) : Prop := IPf n m3 m4 I ∧ ∀ dt M, I dt M → dt ≤ 200
theorem r_followJ (d : Nat) (G : GH) (x : Nat) (ra : Nat → Nat) (M : MS) (u n : Nat) (m3 m4 : Nat → Int32) (I : Nat → MS → Prop) (hP : FP n m3 m4 I) (hR : RR G x ra M) (hM : JJ I M) (hu : u ≤ n) : Cd l yX9_follow cX9_follow 2 none (d + 8) 0 0 Y [.inr (.inr (some x)), .inl (nI u)] G (fun r G' => r = none ∧ RR G' x ra (folM n M u) ∧ JJ I (folM n M u)) := by
  refine Ct.of (ini := False) (by decide +kernel) False.elim rfl (Nat.le_of_ble_eq_true rfl) ?_
  intro p e s m args below meth c C X
  obtain ⟨dt0, hdt0, hM⟩ := hM
  obtain ⟨hP, hdt⟩ := hP
  refine b_X9_follow_0.go C ⟨trivial, ?_⟩
  refine k_X9_follow_2.go C X (r_behind (d + 1) _ x ra M u n m3 m4 (I dt0) (hP.1 dt0) hR hM hu) (rest := []) rfl rfl rfl (fun _ => ⟨x, 9, _, rfl, hR.1, by decide⟩) (Nat.zero_le _) (Rq.of (Nat.le_refl _) (by decide) (Nat.le_refl _) (Nat.le_refl _)) ?_
  rintro r G1 ⟨rfl, R1, I1⟩
  refine b_X9_follow_5.go C ⟨trivial, ?_⟩
  refine k_X9_follow_6.go C X (r_dues d _ x ra _ n dt0 m3 m4 I hP R1 I1 hdt0) (rest := []) rfl rfl rfl (fun _ => ⟨x, 9, _, rfl, R1.1, by decide⟩) (Nat.zero_le _) (Rq.of (Nat.le_refl _) (by decide) (Nat.le_refl _) (Nat.le_refl _)) ?_
  rintro r G2 ⟨rfl, R2, dt, I2⟩
  exact V_vret C X d_X9_follow_9 (Nat.zero_le _) (Nat.zero_le _) ⟨rfl, R2, dt, hdt dt _ I2, I2⟩
/-- the second part of a nested work begins -/
def gonV (M : MS) (t : Nat) : MS := up2 (up2 (up2 M 19 t (nI 2)) 24 t (nI 2)) 23 t (M 0 0 + M 18 t - M 18 t / nI 2)
/-- a nested work ends as its input did -/
def gonE (M : MS) (t : Nat) : MS := if M 8 (iN M t 0) = nI 2 then wfM (newFM M (nN M 38 0) (nI 12) (nI t) (M 12 (iN M t 0))) t (nI (nN M 38 0)) else markM M t (nI 3)
def gonM (n : Nat) (M : MS) (t : Nat) : MS := if M 8 (iN M t 0) = nI 1 then gonV M t else folM n (gonE M t) t
theorem r_goesOn (d : Nat) (G : GH) (x : Nat) (ra : Nat → Nat) (M : MS) (t n f0 : Nat) (m3 m4 : Nat → Int32) (I : Nat → MS → Prop) (hP : FP n m3 m4 I) (hR : RR G x ra M) (ht : t ≤ n) (hin : inOk M t) (hk1 : 1 ≤ kI M t) (hmk : markOk M t) (hf : M 38 0 = nI f0) (hf2 : f0 < 2000) (hV : M 8 (iN M t 0) = nI 1 → JJ I (gonV M t)) (hE : ¬ M 8 (iN M t 0) = nI 1 → JJ I (gonE M t)) : Cd l yX9_goesOn cX9_goesOn 3 none (d + 9) 0 0 Y [.inr (.inr (some x)), .inl (nI t)] G (fun r G' => r = none ∧ RR G' x ra (gonM n M t) ∧ JJ I (gonM n M t)) := by
  refine Ct.of (ini := False) (by decide +kernel) False.elim rfl (Nat.le_of_ble_eq_true rfl) ?_
  intro p e s m args below meth c C X
  have ef : nN M 38 0 = f0 := nN_of hf (by omega)
  obtain ⟨ht2, -, -, hj⟩ := hin
  obtain ⟨hi, hi1, hi2⟩ := hj 0 hk1
  obtain ⟨i, ei⟩ : ∃ i, i = iN M t 0 := ⟨_, rfl⟩
  rw [← ei] at hi hi1 hi2 hV hE
  refine b_X9_goesOn_0.go C ⟨_, hR.1, _, pk_mul _ _, _, _, hR.2.1 3 (by decide) rfl, 24 * t, rfl, by show 24 * t < 4824; omega, lb rfl, _, hi, _, hR.1, _, _, hR.2.1 8 (by decide) rfl, i, rfl, by show i < 201; omega, lb rfl, _, rfl, fun h0 => ⟨trivial, ?_⟩, fun h0 => ⟨trivial, ?_⟩⟩
  rotate_left
  · have R1_ := hR.st 19 t (nI 2) (by decide) rfl
    have R2_ := R1_.st 24 t (nI 2) (by decide) rfl
    refine b_X9_goesOn_20.go C ⟨_, hR.1, _, _, hR.2.1 19 (by decide) rfl, t, rfl, by show t < 201; omega, lb rfl, _, R1_.1, _, _, R1_.2.1 24 (by decide) rfl, t, rfl, by show t < 201; omega, lb rfl, _, R2_.1, _, R2_.1, _, R2_.1, _, _, R2_.2.1 18 (by decide) rfl, t, rfl, by show t < 201; omega, lb rfl, _, rfl, _, rfl, _, R2_.1, _, _, R2_.2.1 18 (by decide) rfl, t, rfl, by show t < 201; omega, lb rfl, _, rfl, trivial, ?_⟩
    have R3_ := R2_.st 23 t (((M 0 0) + (M 18 t)) - ((M 18 t) / (nI 2))) (by decide) rfl
    refine b_X9_goesOn_56.go C ⟨by decide +kernel, _, rfl, _, rfl, _, _, R2_.2.1 23 (by decide) rfl, t, rfl, by show t < 201; omega, lb rfl, trivial, ?_⟩
    exact V_vret C X d_X9_goesOn_105 (Nat.zero_le _) (Nat.zero_le _) ⟨rfl, by rw [gonM, ← ei, if_pos h0]; exact ⟨R3_, hV h0⟩⟩
  have fin : ∀ G1 : GH, RR G1 x ra (gonE M t) → V p l e (RM (d + 9) 0 0) s m args below meth c Y (GA G s.heap.size) (QM below args s (RM (d + 9) 0 0) Y G (fun r G' => r = none ∧ RR G' x ra (gonM n M t) ∧ JJ I (gonM n M t))) 100 G1 0 0 [some (.inr (.inr (some x))), some (.inl (nI t)), some (.inl (nI i))] [] := by
    intro G1 R1
    refine b_X9_goesOn_100.go C ⟨trivial, ?_⟩
    refine k_X9_goesOn_102.go C X (r_followJ d G1 x ra (gonE M t) t n m3 m4 I hP R1 (hE h0) ht) (rest := []) rfl rfl rfl (fun _ => ⟨x, 9, _, rfl, R1.1, by decide⟩) (lb rfl) (Rq.of (by omega) (by decide) (Nat.le_refl _) (Nat.le_refl _)) ?_
    rintro r G2 ⟨rfl, R2, J2⟩
    exact V_vret C X d_X9_goesOn_105 (Nat.zero_le _) (Nat.zero_le _) ⟨rfl, by rw [gonM, ← ei, if_neg h0]; exact ⟨R2, J2⟩⟩
  refine b_X9_goesOn_63.go C ⟨_, hR.1, _, _, hR.2.1 8 (by decide) rfl, i, rfl, by show i < 201; omega, lb rfl, _, rfl, fun h63 => ⟨trivial, ?_⟩, fun h63 => ⟨trivial, ?_⟩⟩
  · refine b_X9_goesOn_94.go C ⟨trivial, ?_⟩
    refine k_X9_goesOn_97.go C X (r_mark (d + 7) G x ra M t (nI 3) hR hmk) (rest := []) rfl rfl rfl (fun _ => ⟨x, 9, _, rfl, hR.1, by decide⟩) (lb rfl) (Rq.of (by omega) (by decide) (Nat.le_refl _) (Nat.le_refl _)) ?_
    rintro r G1 ⟨rfl, R1⟩
    exact fin G1 (by rw [gonE, ← ei, if_neg h63]; exact R1)
  · refine b_X9_goesOn_73.go C ⟨_, hR.1, _, _, hR.2.1 12 (by decide) rfl, i, rfl, by show i < 201; omega, lb rfl, _, rfl, trivial, ?_⟩
    refine k_X9_goesOn_85.go C X (r_newFailure d G x ra M f0 (nI 12) (nI t) (M 12 i) hR hf hf2) (rest := [.inl (nI t), .inr (.inr (some x))]) rfl rfl rfl (fun _ => ⟨x, 9, _, rfl, hR.1, by decide⟩) (lb rfl) (Rq.of (by omega) (by decide) (Nat.le_refl _) (Nat.le_refl _)) ?_
    rintro r G1 ⟨rfl, R1⟩
    refine k_X9_goesOn_88.go C X (r_withFailure (d + 6) G1 x ra _ t (nI f0) R1 hmk) (rest := []) rfl rfl rfl (fun _ => ⟨x, 9, _, rfl, R1.1, by decide⟩) (lb rfl) (Rq.of (by omega) (by decide) (Nat.le_refl _) (Nat.le_refl _)) ?_
    rintro r G2 ⟨rfl, R2⟩
    refine b_X9_goesOn_91.go C ⟨trivial, ?_⟩
    exact fin G2 (by rw [gonE, ← ei, if_pos h63, ef]; exact R2)
/-- a nested work waits for its input -/
def hlfW (M : MS) (t : Nat) : MS := noteM (up2 M 19 t (nI 3)) (nN M 53 0) (nI t) (nI 5)
def hlfM (n : Nat) (M : MS) (t : Nat) : MS := if M 8 (iN M t 0) = 0 then hlfW M t else gonM n M t
theorem r_half (d : Nat) (G : GH) (x : Nat) (ra : Nat → Nat) (M : MS) (t n f0 g : Nat) (m3 m4 : Nat → Int32) (I : Nat → MS → Prop) (hP : FP n m3 m4 I) (hR : RR G x ra M) (ht : t ≤ n) (hin : inOk M t) (hk1 : 1 ≤ kI M t) (hmk : markOk M t) (hf : M 38 0 = nI f0) (hf2 : f0 < 2000) (hg : M 53 0 = nI g) (hg2 : g < 4000) (hW : M 8 (iN M t 0) = 0 → JJ I (hlfW M t)) (hV : M 8 (iN M t 0) = nI 1 → JJ I (gonV M t)) (hE : ¬ M 8 (iN M t 0) = 0 → ¬ M 8 (iN M t 0) = nI 1 → JJ I (gonE M t)) : Cd l yX9_half cX9_half 2 none (d + 10) 0 0 Y [.inr (.inr (some x)), .inl (nI t)] G (fun r G' => r = none ∧ RR G' x ra (hlfM n M t) ∧ JJ I (hlfM n M t)) := by
  refine Ct.of (ini := False) (by decide +kernel) False.elim rfl (Nat.le_of_ble_eq_true rfl) ?_
  intro p e s m args below meth c C X
  have eg : nN M 53 0 = g := nN_of hg (by omega)
  obtain ⟨ht2, h4, h5, hj⟩ := id hin
  obtain ⟨hi, hi1, hi2⟩ := hj 0 hk1
  refine b_X9_half_0.go C ⟨_, hR.1, _, hR.1, _, pk_mul _ _, _, _, hR.2.1 3 (by decide) rfl, 24 * t, rfl, by show 24 * t < 4824; omega, lb rfl, _, hi, _, _, hR.2.1 8 (by decide) rfl, iN M t 0, rfl, by show iN M t 0 < 201; omega, lb rfl, _, rfl, fun h0 => ⟨trivial, ?_⟩, fun h0 => ⟨trivial, ?_⟩⟩
  · refine b_X9_half_33.go C ⟨trivial, ?_⟩
    refine k_X9_half_35.go C X (r_goesOn d G x ra M t n f0 m3 m4 I hP hR ht hin hk1 hmk hf hf2 hV (hE h0)) (rest := []) rfl rfl rfl (fun _ => ⟨x, 9, _, rfl, hR.1, by decide⟩) (lb rfl) (Rq.of (by omega) (by decide) (Nat.le_refl _) (Nat.le_refl _)) ?_
    rintro r G1 ⟨rfl, R1, J1⟩
    exact V_vret C X d_X9_half_38 (Nat.zero_le _) (Nat.zero_le _) ⟨rfl, by rw [hlfM, if_neg h0]; exact ⟨R1, J1⟩⟩
  · have R1_ := hR.st 19 t (nI 3) (by decide) rfl
    refine b_X9_half_17.go C ⟨_, hR.1, _, _, hR.2.1 19 (by decide) rfl, t, rfl, by show t < 201; omega, lb rfl, trivial, ?_⟩
    refine k_X9_half_27.go C X (r_note d _ x ra _ g (nI t) (nI 5) R1_ hg hg2) (rest := []) rfl rfl rfl (fun _ => ⟨x, 9, _, rfl, R1_.1, by decide⟩) (lb rfl) (Rq.of (by omega) (by decide) (Nat.le_refl _) (Nat.le_refl _)) ?_
    rintro r G1 ⟨rfl, R1⟩
    refine b_X9_half_30.go C ⟨trivial, ?_⟩
    exact V_vret C X d_X9_half_38 (Nat.zero_le _) (Nat.zero_le _) ⟨rfl, by rw [hlfM, if_pos h0]; exact ⟨by rw [hlfW, eg]; exact R1, hW h0⟩⟩
/-- the earlier failures of the work t, from k on, are suppressed under f, whose row begins at a -/
def supF (t f a : Nat) : Nat → Nat → MS → MS
  | 0, _, M => M
  | q + 1, k, M => supF t f a q (k + 1) (supM M f a k (M 31 (6 * t + k)))
/-- does the work t pause on a failure of kind kd? -/
def psB (M : MS) (t kd : Nat) : Bool := decide (M 2 t = nI 10) && (und kd 1 && decide (M 21 t ≤ M 29 t))
def flsN (M : MS) (t kd : Nat) : MS := newFM M (nN M 38 0) (nI kd) (nI t) (-1)
def flsQ (M : MS) (t kd : Nat) : MS := up2 (up2 (up2 (up2 (flsN M t kd) 31 (6 * t + nN M 27 t) (nI (nN M 38 0))) 28 (6 * t + nN M 27 t) (M 0 0 + (M 30 t <<< (nI (nN M 27 t) &&& 31)))) 27 t (nI (nN M 27 t + 1))) 19 t (nI 4)
def flsP (M : MS) (t kd : Nat) : MS := noteM (levM (flsQ M t kd) t) (nN M 53 0) (nI t) (nI 7)
def flsE (M : MS) (t kd : Nat) : MS := wfM (supF t (nN M 38 0) (nN M 40 0) (nN M 27 t) 0 (flsN M t kd)) t (nI (nN M 38 0))
def flsM (n : Nat) (M : MS) (t kd : Nat) : MS := if psB M t kd = true then flsP M t kd else folM n (flsE M t kd) t
theorem supF_o (t f a : Nat) : ∀ (q k : Nat) (M : MS) (h : Nat), h ≠ 39 → h ≠ 37 → h ≠ 40 → supF t f a q k M h = M h
  | 0, _, _, _, _, _, _ => rfl
  | q + 1, k, M, h, h1, h2, h3 => by rw [supF, supF_o t f a q (k + 1) _ h h1 h2 h3, supM, up2_f h3, up2_f h2, up2_f h1]
theorem markOk_congr {M M' : MS} {t : Nat} (h16 : M' 16 = M 16) (h53 : M' 53 = M 53) (h2 : M' 2 = M 2) (h19 : M' 19 = M 19) (h25 : M' 25 = M 25) (h47 : M' 47 = M 47) (h : markOk M t) : markOk M' t := by
  unfold markOk atC at h ⊢
  rw [h16, h53, h2, h19, h25, h47]
  exact h
theorem levM_o {M : MS} {t f : Nat} (h1 : f ≠ 46) (h2 : f ≠ 47) : levM M t f = M f := by rw [levM, up2_f h2, levF_o _ _ _ _ _ _ f h1]
set_option maxHeartbeats 1000000 in
theorem r_fails (d : Nat) (G : GH) (x : Nat) (ra : Nat → Nat) (M : MS) (t n kd f0 a0 k0 g : Nat) (m3 m4 : Nat → Int32) (I : Nat → MS → Prop) (hP : FP n m3 m4 I) (hR : RR G x ra M) (ht : t ≤ n) (ht2 : t ≤ 200) (hkd : kd ≤ 15) (hmk : markOk M t) (hat : atC M t = true) (hf : M 38 0 = nI f0) (hf2 : f0 < 2000) (ha : M 40 0 = nI a0) (ha2 : a0 + 24 < 8000) (hk : M 27 t = nI k0) (hk2 : k0 ≤ 5) (hg : M 53 0 = nI g) (hg2 : g < 4000) (hQ : psB M t kd = true → JJ I (flsP M t kd)) (hE : psB M t kd = false → JJ I (flsE M t kd)) : Cd l yX9_fails cX9_fails 5 none (d + 9) 0 0 Y [.inr (.inr (some x)), .inl (nI t), .inl (nI kd)] G (fun r G' => r = none ∧ RR G' x ra (flsM n M t kd) ∧ JJ I (flsM n M t kd)) := by
  refine Ct.of (ini := False) (by decide +kernel) False.elim rfl (Nat.le_of_ble_eq_true rfl) ?_
  intro p e s m args below meth c C X
  have ef : nN M 38 0 = f0 := nN_of hf (by omega)
  have ea : nN M 40 0 = a0 := nN_of ha (by omega)
  have ek : nN M 27 t = k0 := nN_of hk (by omega)
  have eg : nN M 53 0 = g := nN_of hg (by omega)
  obtain ⟨c0, q0, hc, hc2, hq, hq2⟩ := hmk.2.2.2 hat
  refine b_X9_fails_0.go C ⟨trivial, ?_⟩
  refine k_X9_fails_4.go C X (r_newFailure d G x ra M f0 (nI kd) (nI t) (-1) hR hf hf2) (rest := []) rfl rfl rfl (fun _ => ⟨x, 9, _, rfl, hR.1, by decide⟩) (lb rfl) (Rq.of (by omega) (by decide) (Nat.le_refl _) (Nat.le_refl _)) ?_
  rintro r G1 ⟨rfl, R1⟩
  have e1 : newFM M f0 (nI kd) (nI t) (-1) = flsN M t kd := by rw [flsN, ef]
  have fin : psB M t kd = false → V p l e (RM (d + 9) 0 0) s m args below meth c Y (GA G s.heap.size) (QM below args s (RM (d + 9) 0 0) Y G (fun r G' => r = none ∧ RR G' x ra (flsM n M t kd) ∧ JJ I (flsM n M t kd))) 123 G1 0 0 [some (.inr (.inr (some x))), some (.inl (nI t)), some (.inl (nI kd)), some (.inl (nI f0)), none] [] := by
    intro hp
    refine b_X9_fails_123.go C ⟨trivial, ?_⟩
    refine (show ∀ (q k : Nat) (G2 : GH) (M2 : MS), k + q = k0 → RR G2 x ra M2 → (∀ h, h ≠ 39 → h ≠ 37 → h ≠ 40 → M2 h = flsN M t kd h) → M2 37 f0 = nI k → supF t f0 a0 k0 0 (flsN M t kd) = supF t f0 a0 q k M2 → V p l e (RM (d + 9) 0 0) s m args below meth c Y (GA G s.heap.size) (QM below args s (RM (d + 9) 0 0) Y G (fun r G' => r = none ∧ RR G' x ra (flsM n M t kd) ∧ JJ I (flsM n M t kd))) 126 G2 0 0 [some (.inr (.inr (some x))), some (.inl (nI t)), some (.inl (nI kd)), some (.inl (nI f0)), some (.inl (nI k))] [] from ?_) k0 0 G1 _ (by omega) R1 (fun h _ _ _ => by rw [e1]) (show up2 _ 37 f0 (nI 0) 37 f0 = nI 0 from up2_s _ _ _ _) (by rw [e1])
    intro q
    induction q with
    | zero =>
      intro k G2 M2 hk9 R2 hM h37 hs
      have h27 : M2 27 t = nI k0 := by rw [hM 27 (by decide) (by decide) (by decide)]; exact hk
      refine b_X9_fails_126.go C ⟨_, R2.1, _, _, R2.2.1 27 (by decide) rfl, t, rfl, by show t < 201; omega, lb rfl, _, h27, fun h126 => ⟨trivial, ?_⟩, fun h => absurd (nI_le (by omega) (by omega)) h⟩
      refine b_X9_fails_160.go C ⟨trivial, ?_⟩
      have hmk2 : markOk M2 t := markOk_congr (hM 16 (by decide) (by decide) (by decide)) (hM 53 (by decide) (by decide) (by decide)) (hM 2 (by decide) (by decide) (by decide)) (hM 19 (by decide) (by decide) (by decide)) (hM 25 (by decide) (by decide) (by decide)) (hM 47 (by decide) (by decide) (by decide)) hmk
      have eE : wfM M2 t (nI f0) = flsE M t kd := by rw [flsE, ef, ea, ek, hs, supF]
      refine k_X9_fails_163.go C X (r_withFailure (d + 6) G2 x ra M2 t (nI f0) R2 hmk2) (rest := []) rfl rfl rfl (fun _ => ⟨x, 9, _, rfl, R2.1, by decide⟩) (lb rfl) (Rq.of (by omega) (by decide) (Nat.le_refl _) (Nat.le_refl _)) ?_
      rintro r G3 ⟨rfl, R3⟩
      rw [eE] at R3
      refine b_X9_fails_166.go C ⟨trivial, ?_⟩
      refine k_X9_fails_168.go C X (r_followJ d G3 x ra _ t n m3 m4 I hP R3 (hE hp) ht) (rest := []) rfl rfl rfl (fun _ => ⟨x, 9, _, rfl, R3.1, by decide⟩) (lb rfl) (Rq.of (by omega) (by decide) (Nat.le_refl _) (Nat.le_refl _)) ?_
      rintro r G4 ⟨rfl, R4, J4⟩
      exact V_vret C X d_X9_fails_171 (Nat.zero_le _) (Nat.zero_le _) ⟨rfl, by rw [flsM, hp]; exact ⟨R4, J4⟩⟩
    | succ q ih =>
      intro k G2 M2 hk9 R2 hM h37 hs
      have h27 : M2 27 t = nI k0 := by rw [hM 27 (by decide) (by decide) (by decide)]; exact hk
      have h36 : M2 36 f0 = nI a0 := by rw [hM 36 (by decide) (by decide) (by decide), flsN, ef]; exact (show up2 (up2 (up2 (up2 M 33 f0 (nI kd)) 34 f0 (nI t)) 35 f0 (-1)) 36 f0 (M 40 0) 36 f0 = nI a0 from (up2_s _ _ _ _).trans ha)
      refine b_X9_fails_126.go C ⟨_, R2.1, _, _, R2.2.1 27 (by decide) rfl, t, rfl, by show t < 201; omega, lb rfl, _, h27, fun h => absurd (show k0 ≤ k from (nI_leI (by omega) (by omega)).mp h) (by omega), fun h126 => ⟨trivial, ?_⟩⟩
      refine b_X9_fails_137.go C ⟨_, R2.1, _, pk_mul _ _, _, nI_add _ _, _, _, R2.2.1 31 (by decide) rfl, 6 * t + k, rfl, by show 6 * t + k < 1206; omega, lb rfl, _, rfl, trivial, ?_⟩
      refine k_X9_fails_151.go C X (r_suppress d G2 x ra M2 f0 a0 k (M2 31 (6 * t + k)) R2 hf2 h36 h37 (by omega)) (rest := []) rfl rfl rfl (fun _ => ⟨x, 9, _, rfl, R2.1, by decide⟩) (lb rfl) (Rq.of (by omega) (by decide) (Nat.le_refl _) (Nat.le_refl _)) ?_
      rintro r G3 ⟨rfl, R3⟩
      refine b_X9_fails_154.go C ⟨_, nI_1 _, trivial, ?_⟩
      exact ih (k + 1) G3 _ (by omega) R3 (fun h h1 h2 h3 => by rw [supM, up2_f h3, up2_f h2, up2_f h1]; exact hM h h1 h2 h3) (show up2 (up2 M2 39 (a0 + k) (M2 31 (6 * t + k))) 37 f0 (nI (k + 1)) 37 f0 = nI (k + 1) from up2_s _ _ _ _) (by rw [hs, supF])
  refine b_X9_fails_7.go C ⟨_, R1.1, _, _, R1.2.1 2 (by decide) rfl, t, rfl, by show t < 201; omega, lb rfl, _, rfl, fun h7 => ⟨trivial, ?_⟩, fun h7 => ⟨trivial, ?_⟩⟩
  · exact fin (by rw [psB, decide_eq_false (show ¬ M 2 t = nI 10 from h7)]; rfl)
  refine b_X9_fails_19.go C ⟨trivial, ?_⟩
  refine k_X9_fails_21.go C X (r_isUnder d G1 kd 1 hkd (by omega)) (rest := []) rfl rfl rfl (fun h => absurd rfl h) (lb rfl) (Rq.of (by omega) (by decide) (Nat.le_refl _) (Nat.le_refl _)) ?_
  rintro r G2 ⟨h9, rfl⟩
  replace h9 := h9.symm
  subst h9
  refine b_X9_fails_24.go C ⟨fun h24 => ⟨trivial, ?_⟩, fun h24 => ⟨trivial, ?_⟩⟩
  · exact fin (by rw [psB, bI_0 h24, Bool.false_and, Bool.and_false])
  refine b_X9_fails_27.go C ⟨_, R1.1, _, _, R1.2.1 21 (by decide) rfl, t, rfl, by show t < 201; omega, lb rfl, _, rfl, _, R1.1, _, _, R1.2.1 29 (by decide) rfl, t, rfl, by show t < 201; omega, lb rfl, _, rfl, fun h27 => ⟨trivial, ?_⟩, fun h27 => ⟨trivial, ?_⟩⟩
  · exact fin (by rw [psB, show decide (M 21 t ≤ M 29 t) = false from decide_eq_false (Int32.not_le.mpr h27), Bool.and_false, Bool.and_false])
  have hp : psB M t kd = true := by rw [psB, decide_eq_true (show M 2 t = nI 10 from h7), bI_1 h24, show decide (M 21 t ≤ M 29 t) = true from decide_eq_true (Int32.not_lt.mp h27)]; rfl
  have R1_ := R1.st 31 (6 * t + k0) (nI f0) (by decide) rfl
  refine b_X9_fails_42.go C ⟨_, R1.1, _, pk_mul _ _, _, R1.1, _, _, R1.2.1 27 (by decide) rfl, t, rfl, by show t < 201; omega, lb rfl, _, hk, _, nI_add _ _, _, _, R1.2.1 31 (by decide) rfl, 6 * t + k0, rfl, by show 6 * t + k0 < 1206; omega, lb rfl, _, R1_.1, _, pk_mul _ _, _, R1_.1, _, _, R1_.2.1 27 (by decide) rfl, t, rfl, by show t < 201; omega, lb rfl, _, hk, _, nI_add _ _, _, R1_.1, trivial, ?_⟩
  have R2_ := R1_.st 28 (6 * t + k0) ((((newFM M f0 (nI kd) (nI t) (-1))) 0 0) + ((((newFM M f0 (nI kd) (nI t) (-1))) 30 t) <<< ((nI k0) &&& 31))) (by decide) rfl
  have R3_ := R2_.st 27 t (nI (k0 + 1)) (by decide) rfl
  have R4_ := R3_.st 19 t (nI 4) (by decide) rfl
  refine b_X9_fails_78.go C ⟨_, R1_.1, _, _, R1_.2.1 30 (by decide) rfl, t, rfl, by show t < 201; omega, lb rfl, _, rfl, _, R1_.1, _, _, R1_.2.1 27 (by decide) rfl, t, rfl, by show t < 201; omega, lb rfl, _, hk, _, rfl, _, rfl, _, _, R1_.2.1 28 (by decide) rfl, 6 * t + k0, rfl, by show 6 * t + k0 < 1206; omega, lb rfl, _, R2_.1, _, _, R2_.2.1 27 (by decide) rfl, t, rfl, by show t < 201; omega, lb rfl, _, hk, _, nI_add _ _, _, _, R2_.2.1 27 (by decide) rfl, t, rfl, by show t < 201; omega, lb rfl, _, R3_.1, _, _, R3_.2.1 19 (by decide) rfl, t, rfl, by show t < 201; omega, lb rfl, trivial, ?_⟩
  have eQ : (up2 (up2 (up2 (up2 ((newFM M f0 (nI kd) (nI t) (-1))) 31 (6 * t + k0) (nI f0)) 28 (6 * t + k0) ((((newFM M f0 (nI kd) (nI t) (-1))) 0 0) + ((((newFM M f0 (nI kd) (nI t) (-1))) 30 t) <<< ((nI k0) &&& 31)))) 27 t (nI (k0 + 1))) 19 t (nI 4)) = flsQ M t kd := by rw [flsQ, flsN, ef, ek]; rfl
  have R9 := R4_
  rw [eQ] at R9
  refine b_X9_fails_110.go C ⟨trivial, ?_⟩
  refine k_X9_fails_112.go C X (r_leave d _ x ra _ t c0 q0 R4_ ht2 hc hc2 hq hq2) (rest := []) rfl rfl rfl (fun _ => ⟨x, 9, _, rfl, R4_.1, by decide⟩) (lb rfl) (Rq.of (by omega) (by decide) (Nat.le_refl _) (Nat.le_refl _)) ?_
  rintro r G3 ⟨rfl, R3⟩
  rw [eQ] at R3
  refine b_X9_fails_115.go C ⟨trivial, ?_⟩
  refine k_X9_fails_119.go C X (r_note d _ x ra _ g (nI t) (nI 7) R3 (by rw [levM_o (by decide) (by decide)]; exact hg) hg2) (rest := []) rfl rfl rfl (fun _ => ⟨x, 9, _, rfl, R3.1, by decide⟩) (lb rfl) (Rq.of (by omega) (by decide) (Nat.le_refl _) (Nat.le_refl _)) ?_
  rintro r G4 ⟨rfl, R4⟩
  exact V_vret C X d_X9_fails_122 (Nat.zero_le _) (Nat.zero_le _) ⟨rfl, by rw [flsM, if_pos hp]; exact ⟨by rw [flsP, eg]; exact R4, hQ hp⟩⟩
/-- the value of a working that ends -/
def wrkA (M : MS) (t : Nat) : Int32 := if M 5 t = 0 then M 6 t else if M 5 t = nI 1 then M 6 t + M 21 t else if M 5 t = nI 2 then M 6 t ^^^ M 22 t else M 6 t * M 21 t + M 22 t
def wrkV (M : MS) (t : Nat) : Int32 := if M 2 t = nI 11 then wrkA M t + M 11 (iN M t 0) else wrkA M t
/-- does the working of t fail? of which kind? -/
def wrkB (M : MS) (t : Nat) : Bool := decide (¬ plnM M (nI t) (M 21 t) = -1 ∨ M 5 t = nI 4)
def wrkK (M : MS) (t : Nat) : Nat := if plnM M (nI t) (M 21 t) = -1 then (M 6 t &&& nI 15).toNatClampNeg else nN M 43 (plnM M (nI t) (M 21 t)).toNatClampNeg
def wrkM (n : Nat) (M : MS) (t : Nat) : MS := if wrkB M t = true then flsM n M t (wrkK M t) else folM n (wvM M t (wrkV M t)) t
theorem and15 (a : Int32) : a &&& nI 15 = nI (a &&& nI 15).toNatClampNeg ∧ (a &&& nI 15).toNatClampNeg ≤ 15 := by
  obtain ⟨j, hj, e9⟩ := pk_andE a (m := nI 15) 4 (by decide +kernel)
  rw [e9, nI_clamp (by omega)]
  exact ⟨rfl, by omega⟩
/-- each plan has a kind -/
def plnOk (M : MS) : Prop := ∃ q, M 44 0 = nI q ∧ q ≤ 64 ∧ ∀ k, k < q → M 43 k = nI (nN M 43 k) ∧ nN M 43 k ≤ 15
set_option maxHeartbeats 1000000 in
theorem r_worked (d : Nat) (G : GH) (x : Nat) (ra : Nat → Nat) (M : MS) (t n f0 a0 k0 g : Nat) (m3 m4 : Nat → Int32) (I : Nat → MS → Prop) (hP : FP n m3 m4 I) (hR : RR G x ra M) (ht : t ≤ n) (ht2 : t ≤ 200) (hin : M 2 t = nI 11 → inOk M t ∧ 1 ≤ kI M t) (hpl : plnOk M) (hmk : markOk M t) (hat : atC M t = true) (hf : M 38 0 = nI f0) (hf2 : f0 < 2000) (ha : M 40 0 = nI a0) (ha2 : a0 + 24 < 8000) (hk : M 27 t = nI k0) (hk2 : k0 ≤ 5) (hg : M 53 0 = nI g) (hg2 : g < 4000) (hV : ∀ v, JJ I (wvM M t v)) (hQ : ∀ kd, kd ≤ 15 → psB M t kd = true → JJ I (flsP M t kd)) (hE : ∀ kd, kd ≤ 15 → psB M t kd = false → JJ I (flsE M t kd)) : Cd l yX9_worked cX9_worked 6 none (d + 10) 0 0 Y [.inr (.inr (some x)), .inl (nI t)] G (fun r G' => r = none ∧ RR G' x ra (wrkM n M t) ∧ JJ I (wrkM n M t)) := by
  refine Ct.of (ini := False) (by decide +kernel) False.elim rfl (Nat.le_of_ble_eq_true rfl) ?_
  intro p e s m args below meth c C X
  obtain ⟨q0, hq, hq2, hq3⟩ := hpl
  have eq : nN M 44 0 = q0 := nN_of hq (by omega)
  obtain ⟨P, eP⟩ : ∃ P, P = plnM M (nI t) (M 21 t) := ⟨_, rfl⟩
  have hPo := plnF_or M (nI t) (M 21 t) (nN M 44 0) 0 (-1)
  rw [show plnF M (nI t) (M 21 t) (nN M 44 0) 0 (-1) = P from eP.symm, eq] at hPo
  refine b_X9_worked_0.go C ⟨_, hR.1, _, _, hR.2.1 21 (by decide) rfl, t, rfl, by show t < 201; omega, lb rfl, _, rfl, trivial, ?_⟩
  refine k_X9_worked_8.go C X (r_planned 0 G x ra M (nI t) (M 21 t) q0 hR hq hq2) (rest := []) rfl rfl rfl (fun _ => ⟨x, 9, _, rfl, hR.1, by decide⟩) (lb rfl) (Rq.of (by omega) (by decide) (Nat.le_refl _) (Nat.le_refl _)) ?_
  rintro r G9 ⟨h9, rfl⟩
  replace h9 := h9.symm
  subst h9
  rw [← eP]
  have fl : wrkB M t = true → V p l e (RM (d + 10) 0 0) s m args below meth c Y (GA G s.heap.size) (QM below args s (RM (d + 10) 0 0) Y G (fun r G' => r = none ∧ RR G' x ra (wrkM n M t) ∧ JJ I (wrkM n M t))) 42 G 0 0 [some (.inr (.inr (some x))), some (.inl (nI t)), some (.inl P), some (.inl ((M 6 t))), some (.inl ((M 21 t))), none] [] := by
    intro hw
    have call : ∀ kd, kd ≤ 15 → wrkK M t = kd → V p l e (RM (d + 10) 0 0) s m args below meth c Y (GA G s.heap.size) (QM below args s (RM (d + 10) 0 0) Y G (fun r G' => r = none ∧ RR G' x ra (wrkM n M t) ∧ JJ I (wrkM n M t))) 62 G 0 0 [some (.inr (.inr (some x))), some (.inl (nI t)), some (.inl P), some (.inl ((M 6 t))), some (.inl ((M 21 t))), none] [.inl (nI kd), .inl (nI t), .inr (.inr (some x))] := by
      intro kd hkd hkk
      refine k_X9_worked_62.go C X (r_fails d G x ra M t n kd f0 a0 k0 g m3 m4 I hP hR ht ht2 hkd hmk hat hf hf2 ha ha2 hk hk2 hg hg2 (hQ kd hkd) (hE kd hkd)) (rest := []) rfl rfl rfl (fun _ => ⟨x, 9, _, rfl, hR.1, by decide⟩) (lb rfl) (Rq.of (by omega) (by decide) (Nat.le_refl _) (Nat.le_refl _)) ?_
      rintro r G1 ⟨rfl, R1, J1⟩
      exact V_vret C X d_X9_worked_65 (Nat.zero_le _) (Nat.zero_le _) ⟨rfl, by rw [wrkM, if_pos hw, hkk]; exact ⟨R1, J1⟩⟩
    by_cases hm : P = -1
    · refine b_X9_worked_42.go C ⟨fun h42 => ⟨trivial, ?_⟩, fun h => absurd hm h⟩
      refine b_X9_worked_58.go C ⟨_, rfl, trivial, ?_⟩
      rw [(and15 (M 6 t)).1]
      exact call _ (and15 (M 6 t)).2 (by rw [wrkK, ← eP, if_pos hm])
    · refine b_X9_worked_42.go C ⟨fun h => absurd h hm, fun h42 => ⟨trivial, ?_⟩⟩
      obtain h | ⟨j, hj1, hj2, hj⟩ := hPo
      · exact absurd h hm
      have hj3 : j < q0 := by omega
      refine b_X9_worked_49.go C ⟨_, hR.1, _, _, hR.2.1 43 (by decide) rfl, j, hj, by show j < 64; omega, lb rfl, _, (hq3 j hj3).1, trivial, ?_⟩
      exact call _ (hq3 j hj3).2 (by rw [wrkK, ← eP, if_neg hm, hj, nI_clamp (by omega)])
  have vl : wrkB M t = false → V p l e (RM (d + 10) 0 0) s m args below meth c Y (GA G s.heap.size) (QM below args s (RM (d + 10) 0 0) Y G (fun r G' => r = none ∧ RR G' x ra (wrkM n M t) ∧ JJ I (wrkM n M t))) 66 G 0 0 [some (.inr (.inr (some x))), some (.inl (nI t)), some (.inl P), some (.inl ((M 6 t))), some (.inl ((M 21 t))), none] [] := by
    intro hw
    have fin : ∀ (v : Int32) (o : Option AV), v = wrkV M t → V p l e (RM (d + 10) 0 0) s m args below meth c Y (GA G s.heap.size) (QM below args s (RM (d + 10) 0 0) Y G (fun r G' => r = none ∧ RR G' x ra (wrkM n M t) ∧ JJ I (wrkM n M t))) 165 G 0 0 [some (.inr (.inr (some x))), some (.inl (nI t)), some (.inl P), some (.inl ((M 6 t))), some (.inl ((M 21 t))), o] [.inl v, .inl (nI t), .inr (.inr (some x))] := by
      intro v o hv
      refine k_X9_worked_165.go C X (r_withValue (d + 7) G x ra M t v hR hmk) (rest := []) rfl rfl rfl (fun _ => ⟨x, 9, _, rfl, hR.1, by decide⟩) (lb rfl) (Rq.of (by omega) (by decide) (Nat.le_refl _) (Nat.le_refl _)) ?_
      rintro r G1 ⟨rfl, R1⟩
      refine b_X9_worked_168.go C ⟨trivial, ?_⟩
      refine k_X9_worked_170.go C X (r_followJ (d + 1) G1 x ra _ t n m3 m4 I hP R1 (hV v) ht) (rest := []) rfl rfl rfl (fun _ => ⟨x, 9, _, rfl, R1.1, by decide⟩) (lb rfl) (Rq.of (by omega) (by decide) (Nat.le_refl _) (Nat.le_refl _)) ?_
      rintro r G2 ⟨rfl, R2, J2⟩
      exact V_vret C X d_X9_worked_173 (Nat.zero_le _) (Nat.zero_le _) ⟨rfl, by rw [wrkM, hw, ← hv]; exact ⟨R2, J2⟩⟩
    have mid : ∀ v : Int32, v = wrkA M t → V p l e (RM (d + 10) 0 0) s m args below meth c Y (GA G s.heap.size) (QM below args s (RM (d + 10) 0 0) Y G (fun r G' => r = none ∧ RR G' x ra (wrkM n M t) ∧ JJ I (wrkM n M t))) 128 G 0 0 [some (.inr (.inr (some x))), some (.inl (nI t)), some (.inl P), some (.inl ((M 6 t))), some (.inl ((M 21 t))), none] [.inl v] := by
      intro v hv
      refine b_X9_worked_128.go C ⟨_, hR.1, _, _, hR.2.1 2 (by decide) rfl, t, rfl, by show t < 201; omega, lb rfl, _, rfl, fun h128 => ⟨trivial, ?_⟩, fun h128 => ⟨trivial, ?_⟩⟩
      · refine b_X9_worked_163.go C ⟨trivial, ?_⟩
        exact fin v _ (by rw [wrkV, if_neg h128, hv])
      · obtain ⟨⟨-, -, -, hj⟩, hk1⟩ := hin h128
        obtain ⟨hi, hi1, hi2⟩ := hj 0 hk1
        refine b_X9_worked_143.go C ⟨_, hR.1, _, hR.1, _, pk_mul _ _, _, _, hR.2.1 3 (by decide) rfl, 24 * t, rfl, by show 24 * t < 4824; omega, lb rfl, _, hi, _, _, hR.2.1 11 (by decide) rfl, iN M t 0, rfl, by show iN M t 0 < 201; omega, lb rfl, _, rfl, _, rfl, trivial, ?_⟩
        exact fin _ _ (by rw [wrkV, if_pos h128, hv])
    refine b_X9_worked_66.go C ⟨_, hR.1, _, _, hR.2.1 5 (by decide) rfl, t, rfl, by show t < 201; omega, lb rfl, _, rfl, fun h66 => ⟨trivial, ?_⟩, fun h66 => ⟨trivial, ?_⟩⟩
    · refine b_X9_worked_79.go C ⟨_, hR.1, _, _, hR.2.1 5 (by decide) rfl, t, rfl, by show t < 201; omega, lb rfl, _, rfl, fun h79 => ⟨trivial, ?_⟩, fun h79 => ⟨trivial, ?_⟩⟩
      · refine b_X9_worked_96.go C ⟨_, hR.1, _, _, hR.2.1 5 (by decide) rfl, t, rfl, by show t < 201; omega, lb rfl, _, rfl, fun h96 => ⟨trivial, ?_⟩, fun h96 => ⟨trivial, ?_⟩⟩
        · refine b_X9_worked_117.go C ⟨_, rfl, _, hR.1, _, _, hR.2.1 22 (by decide) rfl, t, rfl, by show t < 201; omega, lb rfl, _, rfl, _, rfl, trivial, ?_⟩
          exact mid _ (by rw [wrkA, if_neg h66, if_neg h79, if_neg h96])
        · refine b_X9_worked_106.go C ⟨_, hR.1, _, _, hR.2.1 22 (by decide) rfl, t, rfl, by show t < 201; omega, lb rfl, _, rfl, _, rfl, trivial, ?_⟩
          exact mid _ (by rw [wrkA, if_neg h66, if_neg h79, if_pos h96])
      · refine b_X9_worked_89.go C ⟨_, rfl, trivial, ?_⟩
        exact mid _ (by rw [wrkA, if_neg h66, if_pos h79])
    · refine b_X9_worked_75.go C ⟨trivial, ?_⟩
      exact mid _ (by rw [wrkA, if_pos h66])
  refine b_X9_worked_11.go C ⟨_, hR.1, _, _, hR.2.1 6 (by decide) rfl, t, rfl, by show t < 201; omega, lb rfl, _, rfl, _, hR.1, _, _, hR.2.1 21 (by decide) rfl, t, rfl, by show t < 201; omega, lb rfl, _, rfl, fun h11 => ⟨trivial, ?_⟩, fun h11 => ⟨trivial, ?_⟩⟩
  · exact fl (decide_eq_true (Or.inl (by rw [← eP]; exact h11)))
  refine b_X9_worked_32.go C ⟨_, hR.1, _, _, hR.2.1 5 (by decide) rfl, t, rfl, by show t < 201; omega, lb rfl, _, rfl, fun h32 => ⟨trivial, ?_⟩, fun h32 => ⟨trivial, ?_⟩⟩
  · exact vl (decide_eq_false (fun h => h.elim (fun z => z (by rw [← eP]; exact h11)) h32))
  · exact fl (decide_eq_true (Or.inr h32))
end REFT
