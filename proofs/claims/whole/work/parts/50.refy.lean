/-! the reference: the makings -/
section REFY
variable {l : Launch} {Y : YT}
/-- a new stage t, its inputs given, can begin -/
def BgP (n : Nat) (m3 m4 : Nat → Int32) (I : Nat → MS → Prop) (M : MS) (t : Nat) : Prop := FP n m3 m4 I ∧ inOk M t ∧ t ≤ n ∧ (¬ fstN M t true = 0 → askP M t) ∧ JJ I (bgnA M t)
theorem kI_of {M : MS} {t k : Nat} (h : M 4 t = nI k) (hk : k < 2 ^ 31) : kI M t = k := by rw [kI, h, nI_clamp hk]
/-- t has k inputs at most -/
def kLe (M : MS) (t k : Nat) : Prop := M 4 t = nI (kI M t) ∧ kI M t ≤ k
theorem kLe.tak {M : MS} {t k : Nat} {v : Int32} (h : kLe M t k) (hk : k < 24) : kLe (takM M t v) t (k + 1) := by
  obtain ⟨h1, h2⟩ := h
  unfold takM
  split
  · exact ⟨h1, by omega⟩
  · have e : (up2 (up2 M 3 (24 * t + kI M t) v) 4 t (nI (kI M t + 1))) 4 t = nI (kI M t + 1) := up2_s _ _ _ _
    have e2 := kI_of e (by omega)
    exact ⟨by rw [e2]; exact e, by rw [e2]; omega⟩
theorem kLe.of {M M' : MS} {t k : Nat} (h : kLe M t k) (e : M' 4 = M 4) : kLe M' t k := by
  have : kI M' t = kI M t := by rw [kI, e]; rfl
  exact ⟨by rw [this, e]; exact h.1, by rw [this]; exact h.2⟩
theorem kLe.z {M : MS} {t : Nat} (h : M 4 t = nI 0) : kLe M t 0 := by
  have := kI_of h (by omega)
  exact ⟨by rw [this]; exact h, by omega⟩
def fulB (n k : Nat) : Bool := decide (200 < n + k)
theorem fulB_0 {n k : Nat} (h : fulB n k = false) : n + k ≤ 200 := Nat.le_of_not_lt (of_decide_eq_false h)

def tskB (M : MS) (v w a : Int32) : Bool := decide ((nI 1 ≤ v ∧ v ≤ nI 60) ∧ (nI 0 ≤ w ∧ w ≤ nI 4))
def tskA (n : Nat) (M : MS) (v w a : Int32) : MS := newWM M n (nI 9) v w a
def tskM (n : Nat) (M : MS) (v w a : Int32) : MS := if tskB M v w a = true then (if fulB n 1 = true then M else tskA n M v w a) else M
def tskC (n : Nat) (M : MS) (v w a : Int32) : Int32 := if tskB M v w a = true then (if fulB n 1 = true then -2 else nI (n + 1)) else -1
set_option maxHeartbeats 1000000 in
theorem r_task (d : Nat) (G : GH) (x : Nat) (ra : Nat → Nat) (M : MS) (n : Nat) (v w a : Int32) (hR : RR G x ra M) (hn : M 1 0 = nI n) (hn2 : n ≤ 200) (h4 : n + 1 ≤ 200 → M 4 (n + 1) = nI 0) : Cd l yX9_task cX9_task 4 (some .int) (d + 2) 0 0 Y [.inr (.inr (some x)), .inl v, .inl w, .inl a] G (fun r G' => RR G' x ra (tskM n M v w a) ∧ r = some (.inl (tskC n M v w a))) := by
  refine Ct.of (ini := False) (by decide +kernel) False.elim rfl (Nat.le_of_ble_eq_true rfl) ?_
  intro p e s m args below meth c C X
  have bad : ¬ ((nI 1 ≤ v ∧ v ≤ nI 60) ∧ (nI 0 ≤ w ∧ w ≤ nI 4)) → V p l e (RM (d + 2) 0 0) s m args below meth c Y (GA G s.heap.size) (QM below args s (RM (d + 2) 0 0) Y G (fun r G' => RR G' x ra (tskM n M v w a) ∧ r = some (.inl (tskC n M v w a)))) 19 G 0 0 [some (.inr (.inr (some x))), some (.inl v), some (.inl w), some (.inl a)] [] := by
    intro hb
    have hb : tskB M v w a = false := decide_eq_false hb
    refine b_X9_task_19.go C ⟨trivial, ?_⟩
    exact V_iret C X d_X9_task_20 (Nat.zero_le _) (Nat.zero_le _) ⟨by rw [tskM, hb]; exact hR, by rw [tskC, hb]; rfl⟩
  refine b_X9_task_0.go C ⟨trivial, ?_⟩
  refine k_X9_task_4.go C X (r_in (d + 1) G v (nI 1) (nI 60)) (rest := []) rfl rfl rfl (fun h => absurd rfl h) (lb rfl) (Rq.of (by omega) (by decide) (Nat.le_refl _) (Nat.le_refl _)) ?_
  rintro r G9 ⟨h9, rfl⟩
  replace h9 := h9.symm
  subst h9
  refine b_X9_task_7.go C ⟨fun h7 => ⟨trivial, ?_⟩, fun h7 => ⟨trivial, ?_⟩⟩
  · exact bad (fun q => of_decide_eq_false (bI_0 h7) (q.1))
  have t0 := of_decide_eq_true (bI_1 h7)
  refine b_X9_task_10.go C ⟨trivial, ?_⟩
  refine k_X9_task_13.go C X (r_in (d + 1) G w (nI 0) (nI 4)) (rest := []) rfl rfl rfl (fun h => absurd rfl h) (lb rfl) (Rq.of (by omega) (by decide) (Nat.le_refl _) (Nat.le_refl _)) ?_
  rintro r G9 ⟨h9, rfl⟩
  replace h9 := h9.symm
  subst h9
  refine b_X9_task_16.go C ⟨fun h16 => ⟨trivial, ?_⟩, fun h16 => ⟨trivial, ?_⟩⟩
  rotate_left
  · exact bad (fun q => of_decide_eq_false (bI_0 h16) (q.2))
  have t1 := of_decide_eq_true (bI_1 h16)
  have hB : tskB M v w a = true := decide_eq_true ⟨t0, t1⟩
  refine b_X9_task_21.go C ⟨trivial, ?_⟩
  refine k_X9_task_23.go C X (r_isFull (d + 1) G x ra M n 1 hR hn hn2 (by omega)) (rest := []) rfl rfl rfl (fun _ => ⟨x, 9, _, rfl, hR.1, by decide⟩) (lb rfl) (Rq.of (by omega) (by decide) (Nat.le_refl _) (Nat.le_refl _)) ?_
  rintro r G9 ⟨h9, rfl⟩
  replace h9 := h9.symm
  subst h9
  refine b_X9_task_26.go C ⟨fun h26 => ⟨trivial, ?_⟩, fun h26 => ⟨trivial, ?_⟩⟩
  rotate_left
  · have hf : fulB n 1 = true := bI_1 h26
    refine b_X9_task_29.go C ⟨trivial, ?_⟩
    exact V_iret C X d_X9_task_43 (Nat.zero_le _) (Nat.zero_le _) ⟨by rw [tskM, hB, hf]; exact hR, by rw [tskC, hB, hf]; rfl⟩
  have hf : fulB n 1 = false := bI_0 h26
  have hf2 := fulB_0 hf
  have eM : tskM n M v w a = tskA n M v w a := by rw [tskM, hB, hf, if_pos rfl, if_neg Bool.false_ne_true]
  have eC : tskC n M v w a = nI (n + 1) := by rw [tskC, hB, hf, if_pos rfl, if_neg Bool.false_ne_true]
  refine b_X9_task_34.go C ⟨trivial, ?_⟩
  refine k_X9_task_40.go C X (r_newWork d G x ra M n (nI 9) v w a hR hn (by omega)) (rest := []) rfl rfl rfl (fun _ => ⟨x, 9, _, rfl, hR.1, by decide⟩) (lb rfl) (Rq.of (by omega) (by decide) (Nat.le_refl _) (Nat.le_refl _)) ?_
  rintro r G9 ⟨rfl, R9⟩
  exact V_iret C X d_X9_task_43 (Nat.zero_le _) (Nat.zero_le _) ⟨by rw [eM]; exact R9, by rw [eC]⟩
def valA (n : Nat) (M : MS) (v : Int32) : MS := wvM (madeM M n (nI 0) (nI 0) (nI 0)) (n + 1) v
def valM (n : Nat) (M : MS) (v : Int32) : MS := if fulB n 1 = true then M else folM (n + 1) (valA n M v) (n + 1)
def valC (n : Nat) : Int32 := if fulB n 1 = true then -2 else nI (n + 1)
set_option maxHeartbeats 1000000 in
theorem r_value (d : Nat) (G : GH) (x : Nat) (ra : Nat → Nat) (M : MS) (n : Nat) (v : Int32) (m3 m4 : Nat → Int32) (I : Nat → MS → Prop) (hR : RR G x ra M) (hn : M 1 0 = nI n) (hn2 : n ≤ 200) (hJ : fulB n 1 = false → FP (n + 1) m3 m4 I ∧ markOk (madeM M n (nI 0) (nI 0) (nI 0)) (n + 1) ∧ JJ I (valA n M v)) : Cd l yX9_value cX9_value 3 (some .int) (d + 9) 0 0 Y [.inr (.inr (some x)), .inl v] G (fun r G' => RR G' x ra (valM n M v) ∧ r = some (.inl (valC n)) ∧ (fulB n 1 = false → JJ I (valM n M v))) := by
  refine Ct.of (ini := False) (by decide +kernel) False.elim rfl (Nat.le_of_ble_eq_true rfl) ?_
  intro p e s m args below meth c C X
  refine b_X9_value_0.go C ⟨trivial, ?_⟩
  refine k_X9_value_2.go C X (r_isFull (d + 8) G x ra M n 1 hR hn hn2 (by omega)) (rest := []) rfl rfl rfl (fun _ => ⟨x, 9, _, rfl, hR.1, by decide⟩) (lb rfl) (Rq.of (by omega) (by decide) (Nat.le_refl _) (Nat.le_refl _)) ?_
  rintro r G9 ⟨h9, rfl⟩
  replace h9 := h9.symm
  subst h9
  refine b_X9_value_5.go C ⟨fun h5 => ⟨trivial, ?_⟩, fun h5 => ⟨trivial, ?_⟩⟩
  rotate_left
  · have hf : fulB n 1 = true := bI_1 h5
    refine b_X9_value_8.go C ⟨trivial, ?_⟩
    exact V_iret C X d_X9_value_10 (Nat.zero_le _) (Nat.zero_le _) ⟨by rw [valM, hf]; exact hR, by rw [valC, hf]; rfl, fun q => absurd (hf.symm.trans q) (by decide)⟩
  have hf : fulB n 1 = false := bI_0 h5
  have hf2 := fulB_0 hf
  have eM : valM n M v = folM (n + 1) (valA n M v) (n + 1) := by rw [valM, hf]; rfl
  obtain ⟨hP, hk, J1⟩ := hJ hf
  refine b_X9_value_11.go C ⟨trivial, ?_⟩
  refine k_X9_value_15.go C X (r_made (d + 8) G x ra M n (nI 0) (nI 0) (nI 0) hR hn (by omega)) (rest := []) rfl rfl rfl (fun _ => ⟨x, 9, _, rfl, hR.1, by decide⟩) (lb rfl) (Rq.of (by omega) (by decide) (Nat.le_refl _) (Nat.le_refl _)) ?_
  rintro r G2 ⟨rfl, R2⟩
  refine b_X9_value_18.go C ⟨trivial, ?_⟩
  refine k_X9_value_22.go C X (r_withValue (d + 6) G2 x ra _ (n + 1) v R2 hk) (rest := []) rfl rfl rfl (fun _ => ⟨x, 9, _, rfl, R2.1, by decide⟩) (lb rfl) (Rq.of (by omega) (by decide) (Nat.le_refl _) (Nat.le_refl _)) ?_
  rintro r G3 ⟨rfl, R3⟩
  refine b_X9_value_25.go C ⟨trivial, ?_⟩
  refine k_X9_value_27.go C X (r_followJ d G3 x ra _ (n + 1) (n + 1) m3 m4 I hP R3 J1 (Nat.le_refl _)) (rest := []) rfl rfl rfl (fun _ => ⟨x, 9, _, rfl, R3.1, by decide⟩) (lb rfl) (Rq.of (by omega) (by decide) (Nat.le_refl _) (Nat.le_refl _)) ?_
  rintro r G4 ⟨rfl, R4, J4⟩
  refine b_X9_value_30.go C ⟨trivial, ?_⟩
  exact V_iret C X d_X9_value_31 (Nat.zero_le _) (Nat.zero_le _) ⟨by rw [eM]; exact R4, by rw [valC, hf]; rfl, fun _ => by rw [eM]; exact J4⟩

def fldB (M : MS) (v : Int32) : Bool := decide ((nI 0 ≤ v ∧ v ≤ nI 15))
def fldA (n : Nat) (M : MS) (v : Int32) : MS := wfM (newFM (madeM M n (nI 0) (nI 0) (nI 0)) (nN M 38 0) v (nI (n + 1)) (-1)) (n + 1) (nI (nN M 38 0))
def fldM (n : Nat) (M : MS) (v : Int32) : MS := if fldB M v = true then (if fulB n 1 = true then M else folM (n + 1) (fldA n M v) (n + 1)) else M
def fldC (n : Nat) (M : MS) (v : Int32) : Int32 := if fldB M v = true then (if fulB n 1 = true then -2 else nI (n + 1)) else -1
set_option maxHeartbeats 1000000 in
theorem r_failed (d : Nat) (G : GH) (x : Nat) (ra : Nat → Nat) (M : MS) (n : Nat) (v : Int32) (m3 m4 : Nat → Int32) (I : Nat → MS → Prop) (hR : RR G x ra M) (hn : M 1 0 = nI n) (hn2 : n ≤ 200) (h4 : n + 1 ≤ 200 → M 4 (n + 1) = nI 0) (hJ : fldB M v = true → fulB n 1 = false → FP (n + 1) m3 m4 I ∧ markOk (newFM (madeM M n (nI 0) (nI 0) (nI 0)) (nN M 38 0) v (nI (n + 1)) (-1)) (n + 1) ∧ JJ I (fldA n M v) ∧ ∃ f, M 38 0 = nI f ∧ f < 2000) : Cd l yX9_failed cX9_failed 3 (some .int) (d + 9) 0 0 Y [.inr (.inr (some x)), .inl v] G (fun r G' => RR G' x ra (fldM n M v) ∧ r = some (.inl (fldC n M v)) ∧ (fldB M v = true → fulB n 1 = false → JJ I (fldM n M v))) := by
  refine Ct.of (ini := False) (by decide +kernel) False.elim rfl (Nat.le_of_ble_eq_true rfl) ?_
  intro p e s m args below meth c C X
  have bad : ¬ ((nI 0 ≤ v ∧ v ≤ nI 15)) → V p l e (RM (d + 9) 0 0) s m args below meth c Y (GA G s.heap.size) (QM below args s (RM (d + 9) 0 0) Y G (fun r G' => RR G' x ra (fldM n M v) ∧ r = some (.inl (fldC n M v)) ∧ (fldB M v = true → fulB n 1 = false → JJ I (fldM n M v)))) 10 G 0 0 [some (.inr (.inr (some x))), some (.inl v), none] [] := by
    intro hb
    have hb : fldB M v = false := decide_eq_false hb
    refine b_X9_failed_10.go C ⟨trivial, ?_⟩
    exact V_iret C X d_X9_failed_11 (Nat.zero_le _) (Nat.zero_le _) ⟨by rw [fldM, hb]; exact hR, by rw [fldC, hb]; rfl, fun q => absurd (hb.symm.trans q) (by decide)⟩
  refine b_X9_failed_0.go C ⟨trivial, ?_⟩
  refine k_X9_failed_4.go C X (r_in (d + 8) G v (nI 0) (nI 15)) (rest := []) rfl rfl rfl (fun h => absurd rfl h) (lb rfl) (Rq.of (by omega) (by decide) (Nat.le_refl _) (Nat.le_refl _)) ?_
  rintro r G9 ⟨h9, rfl⟩
  replace h9 := h9.symm
  subst h9
  refine b_X9_failed_7.go C ⟨fun h7 => ⟨trivial, ?_⟩, fun h7 => ⟨trivial, ?_⟩⟩
  rotate_left
  · exact bad (fun q => of_decide_eq_false (bI_0 h7) (q))
  have t0 := of_decide_eq_true (bI_1 h7)
  have hB : fldB M v = true := decide_eq_true t0
  refine b_X9_failed_12.go C ⟨trivial, ?_⟩
  refine k_X9_failed_14.go C X (r_isFull (d + 8) G x ra M n 1 hR hn hn2 (by omega)) (rest := []) rfl rfl rfl (fun _ => ⟨x, 9, _, rfl, hR.1, by decide⟩) (lb rfl) (Rq.of (by omega) (by decide) (Nat.le_refl _) (Nat.le_refl _)) ?_
  rintro r G9 ⟨h9, rfl⟩
  replace h9 := h9.symm
  subst h9
  refine b_X9_failed_17.go C ⟨fun h17 => ⟨trivial, ?_⟩, fun h17 => ⟨trivial, ?_⟩⟩
  rotate_left
  · have hf : fulB n 1 = true := bI_1 h17
    refine b_X9_failed_20.go C ⟨trivial, ?_⟩
    exact V_iret C X d_X9_failed_22 (Nat.zero_le _) (Nat.zero_le _) ⟨by rw [fldM, hB, hf]; exact hR, by rw [fldC, hB, hf]; rfl, fun _ q => absurd (hf.symm.trans q) (by decide)⟩
  have hf : fulB n 1 = false := bI_0 h17
  have hf2 := fulB_0 hf
  have eM : fldM n M v = folM (n + 1) (fldA n M v) (n + 1) := by rw [fldM, hB, hf, if_pos rfl, if_neg Bool.false_ne_true]
  have eC : fldC n M v = nI (n + 1) := by rw [fldC, hB, hf, if_pos rfl, if_neg Bool.false_ne_true]
  obtain ⟨hP, hk, J1, f0, e38, hf0⟩ := hJ hB hf
  have en : nN M 38 0 = f0 := nN_of e38 (by omega)
  rw [en] at hk
  have eA : wfM (newFM (madeM M n (nI 0) (nI 0) (nI 0)) f0 v (nI (n + 1)) (-1)) (n + 1) (nI f0) = fldA n M v := by rw [fldA, en]
  refine b_X9_failed_23.go C ⟨trivial, ?_⟩
  refine k_X9_failed_27.go C X (r_made (d + 8) G x ra M n (nI 0) (nI 0) (nI 0) hR hn (by omega)) (rest := []) rfl rfl rfl (fun _ => ⟨x, 9, _, rfl, hR.1, by decide⟩) (lb rfl) (Rq.of (by omega) (by decide) (Nat.le_refl _) (Nat.le_refl _)) ?_
  rintro r G2 ⟨rfl, R2⟩
  refine b_X9_failed_30.go C ⟨trivial, ?_⟩
  refine k_X9_failed_37.go C X (r_newFailure (d + 8) G2 x ra _ f0 v (nI (n + 1)) (-1) R2 e38 hf0) (rest := [.inl (nI (n + 1)), .inr (.inr (some x))]) rfl rfl rfl (fun _ => ⟨x, 9, _, rfl, R2.1, by decide⟩) (lb rfl) (Rq.of (by omega) (by decide) (Nat.le_refl _) (Nat.le_refl _)) ?_
  rintro r G3 ⟨rfl, R3⟩
  refine k_X9_failed_40.go C X (r_withFailure (d + 6) G3 x ra _ (n + 1) (nI f0) R3 hk) (rest := []) rfl rfl rfl (fun _ => ⟨x, 9, _, rfl, R3.1, by decide⟩) (lb rfl) (Rq.of (by omega) (by decide) (Nat.le_refl _) (Nat.le_refl _)) ?_
  rintro r G4 ⟨rfl, R4⟩
  rw [eA] at R4
  refine b_X9_failed_43.go C ⟨trivial, ?_⟩
  refine k_X9_failed_45.go C X (r_followJ d G4 x ra _ (n + 1) (n + 1) m3 m4 I hP R4 J1 (Nat.le_refl _)) (rest := []) rfl rfl rfl (fun _ => ⟨x, 9, _, rfl, R4.1, by decide⟩) (lb rfl) (Rq.of (by omega) (by decide) (Nat.le_refl _) (Nat.le_refl _)) ?_
  rintro r G5 ⟨rfl, R5, J5⟩
  refine b_X9_failed_48.go C ⟨trivial, ?_⟩
  exact V_iret C X d_X9_failed_49 (Nat.zero_le _) (Nat.zero_le _) ⟨by rw [eM]; exact R5, by rw [eC], fun _ _ => by rw [eM]; exact J5⟩
def thnB (M : MS) (v w a : Int32) : Bool := decide ((nI 1 ≤ v ∧ v ≤ M 1 0) ∧ (nI 0 ≤ w ∧ w ≤ nI 4))
def thnA (n : Nat) (M : MS) (v w a : Int32) : MS := takM (madeM M n (nI 1) w a) (n + 1) v
def thnM (n : Nat) (M : MS) (v w a : Int32) : MS := if thnB M v w a = true then (if fulB n 1 = true then M else bgnM (n + 1) (thnA n M v w a) (n + 1)) else M
def thnC (n : Nat) (M : MS) (v w a : Int32) : Int32 := if thnB M v w a = true then (if fulB n 1 = true then -2 else nI (n + 1)) else -1
set_option maxHeartbeats 1000000 in
theorem r_then (d : Nat) (G : GH) (x : Nat) (ra : Nat → Nat) (M : MS) (n : Nat) (v w a : Int32) (m3 m4 : Nat → Int32) (I : Nat → MS → Prop) (hR : RR G x ra M) (hn : M 1 0 = nI n) (hn2 : n ≤ 200) (h4 : n + 1 ≤ 200 → M 4 (n + 1) = nI 0) (hJ : thnB M v w a = true → fulB n 1 = false → BgP (n + 1) m3 m4 I (thnA n M v w a) (n + 1)) : Cd l yX9_then cX9_then 5 (some .int) (d + 10) 0 0 Y [.inr (.inr (some x)), .inl v, .inl w, .inl a] G (fun r G' => RR G' x ra (thnM n M v w a) ∧ r = some (.inl (thnC n M v w a)) ∧ (thnB M v w a = true → fulB n 1 = false → JJ I (thnM n M v w a))) := by
  refine Ct.of (ini := False) (by decide +kernel) False.elim rfl (Nat.le_of_ble_eq_true rfl) ?_
  intro p e s m args below meth c C X
  have bad : ¬ ((nI 1 ≤ v ∧ v ≤ M 1 0) ∧ (nI 0 ≤ w ∧ w ≤ nI 4)) → V p l e (RM (d + 10) 0 0) s m args below meth c Y (GA G s.heap.size) (QM below args s (RM (d + 10) 0 0) Y G (fun r G' => RR G' x ra (thnM n M v w a) ∧ r = some (.inl (thnC n M v w a)) ∧ (thnB M v w a = true → fulB n 1 = false → JJ I (thnM n M v w a)))) 17 G 0 0 [some (.inr (.inr (some x))), some (.inl v), some (.inl w), some (.inl a), none] [] := by
    intro hb
    have hb : thnB M v w a = false := decide_eq_false hb
    refine b_X9_then_17.go C ⟨trivial, ?_⟩
    exact V_iret C X d_X9_then_18 (Nat.zero_le _) (Nat.zero_le _) ⟨by rw [thnM, hb]; exact hR, by rw [thnC, hb]; rfl, fun q => absurd (hb.symm.trans q) (by decide)⟩
  refine b_X9_then_0.go C ⟨trivial, ?_⟩
  refine k_X9_then_2.go C X (r_isStage (d + 8) G x ra M v hR) (rest := []) rfl rfl rfl (fun _ => ⟨x, 9, _, rfl, hR.1, by decide⟩) (lb rfl) (Rq.of (by omega) (by decide) (Nat.le_refl _) (Nat.le_refl _)) ?_
  rintro r G9 ⟨h9, rfl⟩
  replace h9 := h9.symm
  subst h9
  refine b_X9_then_5.go C ⟨fun h5 => ⟨trivial, ?_⟩, fun h5 => ⟨trivial, ?_⟩⟩
  · exact bad (fun q => of_decide_eq_false (bI_0 h5) (q.1))
  have t0 := of_decide_eq_true (bI_1 h5)
  refine b_X9_then_8.go C ⟨trivial, ?_⟩
  refine k_X9_then_11.go C X (r_in (d + 9) G w (nI 0) (nI 4)) (rest := []) rfl rfl rfl (fun h => absurd rfl h) (lb rfl) (Rq.of (by omega) (by decide) (Nat.le_refl _) (Nat.le_refl _)) ?_
  rintro r G9 ⟨h9, rfl⟩
  replace h9 := h9.symm
  subst h9
  refine b_X9_then_14.go C ⟨fun h14 => ⟨trivial, ?_⟩, fun h14 => ⟨trivial, ?_⟩⟩
  rotate_left
  · exact bad (fun q => of_decide_eq_false (bI_0 h14) (q.2))
  have t1 := of_decide_eq_true (bI_1 h14)
  have hB : thnB M v w a = true := decide_eq_true ⟨t0, t1⟩
  refine b_X9_then_19.go C ⟨trivial, ?_⟩
  refine k_X9_then_21.go C X (r_isFull (d + 9) G x ra M n 1 hR hn hn2 (by omega)) (rest := []) rfl rfl rfl (fun _ => ⟨x, 9, _, rfl, hR.1, by decide⟩) (lb rfl) (Rq.of (by omega) (by decide) (Nat.le_refl _) (Nat.le_refl _)) ?_
  rintro r G9 ⟨h9, rfl⟩
  replace h9 := h9.symm
  subst h9
  refine b_X9_then_24.go C ⟨fun h24 => ⟨trivial, ?_⟩, fun h24 => ⟨trivial, ?_⟩⟩
  rotate_left
  · have hf : fulB n 1 = true := bI_1 h24
    refine b_X9_then_27.go C ⟨trivial, ?_⟩
    exact V_iret C X d_X9_then_29 (Nat.zero_le _) (Nat.zero_le _) ⟨by rw [thnM, hB, hf]; exact hR, by rw [thnC, hB, hf]; rfl, fun _ q => absurd (hf.symm.trans q) (by decide)⟩
  have hf : fulB n 1 = false := bI_0 h24
  have hf2 := fulB_0 hf
  have eM : thnM n M v w a = bgnM (n + 1) (thnA n M v w a) (n + 1) := by rw [thnM, hB, hf, if_pos rfl, if_neg Bool.false_ne_true]
  have eC : thnC n M v w a = nI (n + 1) := by rw [thnC, hB, hf, if_pos rfl, if_neg Bool.false_ne_true]
  refine b_X9_then_30.go C ⟨trivial, ?_⟩
  refine k_X9_then_34.go C X (r_made (d + 9) G x ra M n (nI 1) w a hR hn (by omega)) (rest := []) rfl rfl rfl (fun _ => ⟨x, 9, _, rfl, hR.1, by decide⟩) (lb rfl) (Rq.of (by omega) (by decide) (Nat.le_refl _) (Nat.le_refl _)) ?_
  rintro r G2 ⟨rfl, R2⟩
  have k0 : kLe (madeM M n (nI 1) w a) (n + 1) 0 := (kLe.z (h4 hf2)).of rfl
  refine b_X9_then_37.go C ⟨trivial, ?_⟩
  refine k_X9_then_43.go C X (r_takes (d + 8) G2 x ra _ (n + 1) v R2 (by omega) k0.1 (by have := k0.2; omega)) (rest := []) rfl rfl rfl (fun _ => ⟨x, 9, _, rfl, R2.1, by decide⟩) (lb rfl) (Rq.of (by omega) (by decide) (Nat.le_refl _) (Nat.le_refl _)) ?_
  rintro r G3 ⟨rfl, R3⟩
  refine b_X9_then_46.go C ⟨trivial, ?_⟩
  obtain ⟨hb1, hb2, hb3, hb4, hb5⟩ := hJ hB hf
  have RB : RR _ x ra (thnA n M v w a) := R3
  refine k_X9_then_49.go C X (r_begins d _ x ra (thnA n M v w a) (n + 1) (n + 1) m3 m4 I hb1 RB hb2 hb3 hb4 hb5) (rest := []) rfl rfl rfl (fun _ => ⟨x, 9, _, rfl, RB.1, by decide⟩) (lb rfl) (Rq.of (by omega) (by decide) (Nat.le_refl _) (Nat.le_refl _)) ?_
  rintro r G9 ⟨R9, rfl, J9⟩
  exact V_iret C X d_X9_then_52 (Nat.zero_le _) (Nat.zero_le _) ⟨by rw [eM]; exact R9, by rw [eC], fun _ _ => by rw [eM]; exact J9⟩
def bthB (M : MS) (v u w : Int32) : Bool := decide ((nI 1 ≤ v ∧ v ≤ M 1 0) ∧ (nI 1 ≤ u ∧ u ≤ M 1 0) ∧ (nI 0 ≤ w ∧ w ≤ nI 4))
def bthA (n : Nat) (M : MS) (v u w : Int32) : MS := takM (takM (madeM M n (nI 2) w (nI 0)) (n + 1) v) (n + 1) u
def bthM (n : Nat) (M : MS) (v u w : Int32) : MS := if bthB M v u w = true then (if fulB n 1 = true then M else bgnM (n + 1) (bthA n M v u w) (n + 1)) else M
def bthC (n : Nat) (M : MS) (v u w : Int32) : Int32 := if bthB M v u w = true then (if fulB n 1 = true then -2 else nI (n + 1)) else -1
set_option maxHeartbeats 1000000 in
theorem r_both (d : Nat) (G : GH) (x : Nat) (ra : Nat → Nat) (M : MS) (n : Nat) (v u w : Int32) (m3 m4 : Nat → Int32) (I : Nat → MS → Prop) (hR : RR G x ra M) (hn : M 1 0 = nI n) (hn2 : n ≤ 200) (h4 : n + 1 ≤ 200 → M 4 (n + 1) = nI 0) (hJ : bthB M v u w = true → fulB n 1 = false → BgP (n + 1) m3 m4 I (bthA n M v u w) (n + 1)) : Cd l yX9_both cX9_both 5 (some .int) (d + 10) 0 0 Y [.inr (.inr (some x)), .inl v, .inl u, .inl w] G (fun r G' => RR G' x ra (bthM n M v u w) ∧ r = some (.inl (bthC n M v u w)) ∧ (bthB M v u w = true → fulB n 1 = false → JJ I (bthM n M v u w))) := by
  refine Ct.of (ini := False) (by decide +kernel) False.elim rfl (Nat.le_of_ble_eq_true rfl) ?_
  intro p e s m args below meth c C X
  have bad : ¬ ((nI 1 ≤ v ∧ v ≤ M 1 0) ∧ (nI 1 ≤ u ∧ u ≤ M 1 0) ∧ (nI 0 ≤ w ∧ w ≤ nI 4)) → V p l e (RM (d + 10) 0 0) s m args below meth c Y (GA G s.heap.size) (QM below args s (RM (d + 10) 0 0) Y G (fun r G' => RR G' x ra (bthM n M v u w) ∧ r = some (.inl (bthC n M v u w)) ∧ (bthB M v u w = true → fulB n 1 = false → JJ I (bthM n M v u w)))) 25 G 0 0 [some (.inr (.inr (some x))), some (.inl v), some (.inl u), some (.inl w), none] [] := by
    intro hb
    have hb : bthB M v u w = false := decide_eq_false hb
    refine b_X9_both_25.go C ⟨trivial, ?_⟩
    exact V_iret C X d_X9_both_26 (Nat.zero_le _) (Nat.zero_le _) ⟨by rw [bthM, hb]; exact hR, by rw [bthC, hb]; rfl, fun q => absurd (hb.symm.trans q) (by decide)⟩
  refine b_X9_both_0.go C ⟨trivial, ?_⟩
  refine k_X9_both_2.go C X (r_isStage (d + 8) G x ra M v hR) (rest := []) rfl rfl rfl (fun _ => ⟨x, 9, _, rfl, hR.1, by decide⟩) (lb rfl) (Rq.of (by omega) (by decide) (Nat.le_refl _) (Nat.le_refl _)) ?_
  rintro r G9 ⟨h9, rfl⟩
  replace h9 := h9.symm
  subst h9
  refine b_X9_both_5.go C ⟨fun h5 => ⟨trivial, ?_⟩, fun h5 => ⟨trivial, ?_⟩⟩
  · exact bad (fun q => of_decide_eq_false (bI_0 h5) (q.1))
  have t0 := of_decide_eq_true (bI_1 h5)
  refine b_X9_both_8.go C ⟨trivial, ?_⟩
  refine k_X9_both_10.go C X (r_isStage (d + 8) G x ra M u hR) (rest := []) rfl rfl rfl (fun _ => ⟨x, 9, _, rfl, hR.1, by decide⟩) (lb rfl) (Rq.of (by omega) (by decide) (Nat.le_refl _) (Nat.le_refl _)) ?_
  rintro r G9 ⟨h9, rfl⟩
  replace h9 := h9.symm
  subst h9
  refine b_X9_both_13.go C ⟨fun h13 => ⟨trivial, ?_⟩, fun h13 => ⟨trivial, ?_⟩⟩
  · exact bad (fun q => of_decide_eq_false (bI_0 h13) (q.2.1))
  have t1 := of_decide_eq_true (bI_1 h13)
  refine b_X9_both_16.go C ⟨trivial, ?_⟩
  refine k_X9_both_19.go C X (r_in (d + 9) G w (nI 0) (nI 4)) (rest := []) rfl rfl rfl (fun h => absurd rfl h) (lb rfl) (Rq.of (by omega) (by decide) (Nat.le_refl _) (Nat.le_refl _)) ?_
  rintro r G9 ⟨h9, rfl⟩
  replace h9 := h9.symm
  subst h9
  refine b_X9_both_22.go C ⟨fun h22 => ⟨trivial, ?_⟩, fun h22 => ⟨trivial, ?_⟩⟩
  rotate_left
  · exact bad (fun q => of_decide_eq_false (bI_0 h22) (q.2.2))
  have t2 := of_decide_eq_true (bI_1 h22)
  have hB : bthB M v u w = true := decide_eq_true ⟨t0, t1, t2⟩
  refine b_X9_both_27.go C ⟨trivial, ?_⟩
  refine k_X9_both_29.go C X (r_isFull (d + 9) G x ra M n 1 hR hn hn2 (by omega)) (rest := []) rfl rfl rfl (fun _ => ⟨x, 9, _, rfl, hR.1, by decide⟩) (lb rfl) (Rq.of (by omega) (by decide) (Nat.le_refl _) (Nat.le_refl _)) ?_
  rintro r G9 ⟨h9, rfl⟩
  replace h9 := h9.symm
  subst h9
  refine b_X9_both_32.go C ⟨fun h32 => ⟨trivial, ?_⟩, fun h32 => ⟨trivial, ?_⟩⟩
  rotate_left
  · have hf : fulB n 1 = true := bI_1 h32
    refine b_X9_both_35.go C ⟨trivial, ?_⟩
    exact V_iret C X d_X9_both_37 (Nat.zero_le _) (Nat.zero_le _) ⟨by rw [bthM, hB, hf]; exact hR, by rw [bthC, hB, hf]; rfl, fun _ q => absurd (hf.symm.trans q) (by decide)⟩
  have hf : fulB n 1 = false := bI_0 h32
  have hf2 := fulB_0 hf
  have eM : bthM n M v u w = bgnM (n + 1) (bthA n M v u w) (n + 1) := by rw [bthM, hB, hf, if_pos rfl, if_neg Bool.false_ne_true]
  have eC : bthC n M v u w = nI (n + 1) := by rw [bthC, hB, hf, if_pos rfl, if_neg Bool.false_ne_true]
  refine b_X9_both_38.go C ⟨trivial, ?_⟩
  refine k_X9_both_42.go C X (r_made (d + 9) G x ra M n (nI 2) w (nI 0) hR hn (by omega)) (rest := []) rfl rfl rfl (fun _ => ⟨x, 9, _, rfl, hR.1, by decide⟩) (lb rfl) (Rq.of (by omega) (by decide) (Nat.le_refl _) (Nat.le_refl _)) ?_
  rintro r G2 ⟨rfl, R2⟩
  have k0 : kLe (madeM M n (nI 2) w (nI 0)) (n + 1) 0 := (kLe.z (h4 hf2)).of rfl
  refine b_X9_both_45.go C ⟨trivial, ?_⟩
  refine k_X9_both_51.go C X (r_takes (d + 8) G2 x ra _ (n + 1) v R2 (by omega) k0.1 (by have := k0.2; omega)) (rest := []) rfl rfl rfl (fun _ => ⟨x, 9, _, rfl, R2.1, by decide⟩) (lb rfl) (Rq.of (by omega) (by decide) (Nat.le_refl _) (Nat.le_refl _)) ?_
  rintro r G3 ⟨rfl, R3⟩
  have k1 := k0.tak (v := v) (by omega)
  refine b_X9_both_54.go C ⟨trivial, ?_⟩
  refine k_X9_both_58.go C X (r_takes (d + 8) G3 x ra _ (n + 1) u R3 (by omega) k1.1 (by have := k1.2; omega)) (rest := []) rfl rfl rfl (fun _ => ⟨x, 9, _, rfl, R3.1, by decide⟩) (lb rfl) (Rq.of (by omega) (by decide) (Nat.le_refl _) (Nat.le_refl _)) ?_
  rintro r G4 ⟨rfl, R4⟩
  refine b_X9_both_61.go C ⟨trivial, ?_⟩
  obtain ⟨hb1, hb2, hb3, hb4, hb5⟩ := hJ hB hf
  have RB : RR _ x ra (bthA n M v u w) := R4
  refine k_X9_both_64.go C X (r_begins d _ x ra (bthA n M v u w) (n + 1) (n + 1) m3 m4 I hb1 RB hb2 hb3 hb4 hb5) (rest := []) rfl rfl rfl (fun _ => ⟨x, 9, _, rfl, RB.1, by decide⟩) (lb rfl) (Rq.of (by omega) (by decide) (Nat.le_refl _) (Nat.le_refl _)) ?_
  rintro r G9 ⟨R9, rfl, J9⟩
  exact V_iret C X d_X9_both_67 (Nat.zero_le _) (Nat.zero_le _) ⟨by rw [eM]; exact R9, by rw [eC], fun _ _ => by rw [eM]; exact J9⟩
def frsB (M : MS) (v u : Int32) : Bool := decide ((nI 1 ≤ v ∧ v ≤ M 1 0) ∧ (nI 1 ≤ u ∧ u ≤ M 1 0))
def frsA (n : Nat) (M : MS) (v u : Int32) : MS := takM (takM (madeM M n (nI 3) (nI 0) (nI 0)) (n + 1) v) (n + 1) u
def frsM (n : Nat) (M : MS) (v u : Int32) : MS := if frsB M v u = true then (if fulB n 1 = true then M else bgnM (n + 1) (frsA n M v u) (n + 1)) else M
def frsC (n : Nat) (M : MS) (v u : Int32) : Int32 := if frsB M v u = true then (if fulB n 1 = true then -2 else nI (n + 1)) else -1
set_option maxHeartbeats 1000000 in
theorem r_first (d : Nat) (G : GH) (x : Nat) (ra : Nat → Nat) (M : MS) (n : Nat) (v u : Int32) (m3 m4 : Nat → Int32) (I : Nat → MS → Prop) (hR : RR G x ra M) (hn : M 1 0 = nI n) (hn2 : n ≤ 200) (h4 : n + 1 ≤ 200 → M 4 (n + 1) = nI 0) (hJ : frsB M v u = true → fulB n 1 = false → BgP (n + 1) m3 m4 I (frsA n M v u) (n + 1)) : Cd l yX9_first cX9_first 4 (some .int) (d + 10) 0 0 Y [.inr (.inr (some x)), .inl v, .inl u] G (fun r G' => RR G' x ra (frsM n M v u) ∧ r = some (.inl (frsC n M v u)) ∧ (frsB M v u = true → fulB n 1 = false → JJ I (frsM n M v u))) := by
  refine Ct.of (ini := False) (by decide +kernel) False.elim rfl (Nat.le_of_ble_eq_true rfl) ?_
  intro p e s m args below meth c C X
  have bad : ¬ ((nI 1 ≤ v ∧ v ≤ M 1 0) ∧ (nI 1 ≤ u ∧ u ≤ M 1 0)) → V p l e (RM (d + 10) 0 0) s m args below meth c Y (GA G s.heap.size) (QM below args s (RM (d + 10) 0 0) Y G (fun r G' => RR G' x ra (frsM n M v u) ∧ r = some (.inl (frsC n M v u)) ∧ (frsB M v u = true → fulB n 1 = false → JJ I (frsM n M v u)))) 16 G 0 0 [some (.inr (.inr (some x))), some (.inl v), some (.inl u), none] [] := by
    intro hb
    have hb : frsB M v u = false := decide_eq_false hb
    refine b_X9_first_16.go C ⟨trivial, ?_⟩
    exact V_iret C X d_X9_first_17 (Nat.zero_le _) (Nat.zero_le _) ⟨by rw [frsM, hb]; exact hR, by rw [frsC, hb]; rfl, fun q => absurd (hb.symm.trans q) (by decide)⟩
  refine b_X9_first_0.go C ⟨trivial, ?_⟩
  refine k_X9_first_2.go C X (r_isStage (d + 8) G x ra M v hR) (rest := []) rfl rfl rfl (fun _ => ⟨x, 9, _, rfl, hR.1, by decide⟩) (lb rfl) (Rq.of (by omega) (by decide) (Nat.le_refl _) (Nat.le_refl _)) ?_
  rintro r G9 ⟨h9, rfl⟩
  replace h9 := h9.symm
  subst h9
  refine b_X9_first_5.go C ⟨fun h5 => ⟨trivial, ?_⟩, fun h5 => ⟨trivial, ?_⟩⟩
  · exact bad (fun q => of_decide_eq_false (bI_0 h5) (q.1))
  have t0 := of_decide_eq_true (bI_1 h5)
  refine b_X9_first_8.go C ⟨trivial, ?_⟩
  refine k_X9_first_10.go C X (r_isStage (d + 8) G x ra M u hR) (rest := []) rfl rfl rfl (fun _ => ⟨x, 9, _, rfl, hR.1, by decide⟩) (lb rfl) (Rq.of (by omega) (by decide) (Nat.le_refl _) (Nat.le_refl _)) ?_
  rintro r G9 ⟨h9, rfl⟩
  replace h9 := h9.symm
  subst h9
  refine b_X9_first_13.go C ⟨fun h13 => ⟨trivial, ?_⟩, fun h13 => ⟨trivial, ?_⟩⟩
  rotate_left
  · exact bad (fun q => of_decide_eq_false (bI_0 h13) (q.2))
  have t1 := of_decide_eq_true (bI_1 h13)
  have hB : frsB M v u = true := decide_eq_true ⟨t0, t1⟩
  refine b_X9_first_18.go C ⟨trivial, ?_⟩
  refine k_X9_first_20.go C X (r_isFull (d + 9) G x ra M n 1 hR hn hn2 (by omega)) (rest := []) rfl rfl rfl (fun _ => ⟨x, 9, _, rfl, hR.1, by decide⟩) (lb rfl) (Rq.of (by omega) (by decide) (Nat.le_refl _) (Nat.le_refl _)) ?_
  rintro r G9 ⟨h9, rfl⟩
  replace h9 := h9.symm
  subst h9
  refine b_X9_first_23.go C ⟨fun h23 => ⟨trivial, ?_⟩, fun h23 => ⟨trivial, ?_⟩⟩
  rotate_left
  · have hf : fulB n 1 = true := bI_1 h23
    refine b_X9_first_26.go C ⟨trivial, ?_⟩
    exact V_iret C X d_X9_first_28 (Nat.zero_le _) (Nat.zero_le _) ⟨by rw [frsM, hB, hf]; exact hR, by rw [frsC, hB, hf]; rfl, fun _ q => absurd (hf.symm.trans q) (by decide)⟩
  have hf : fulB n 1 = false := bI_0 h23
  have hf2 := fulB_0 hf
  have eM : frsM n M v u = bgnM (n + 1) (frsA n M v u) (n + 1) := by rw [frsM, hB, hf, if_pos rfl, if_neg Bool.false_ne_true]
  have eC : frsC n M v u = nI (n + 1) := by rw [frsC, hB, hf, if_pos rfl, if_neg Bool.false_ne_true]
  refine b_X9_first_29.go C ⟨trivial, ?_⟩
  refine k_X9_first_33.go C X (r_made (d + 9) G x ra M n (nI 3) (nI 0) (nI 0) hR hn (by omega)) (rest := []) rfl rfl rfl (fun _ => ⟨x, 9, _, rfl, hR.1, by decide⟩) (lb rfl) (Rq.of (by omega) (by decide) (Nat.le_refl _) (Nat.le_refl _)) ?_
  rintro r G2 ⟨rfl, R2⟩
  have k0 : kLe (madeM M n (nI 3) (nI 0) (nI 0)) (n + 1) 0 := (kLe.z (h4 hf2)).of rfl
  refine b_X9_first_36.go C ⟨trivial, ?_⟩
  refine k_X9_first_40.go C X (r_takes (d + 8) G2 x ra _ (n + 1) v R2 (by omega) k0.1 (by have := k0.2; omega)) (rest := []) rfl rfl rfl (fun _ => ⟨x, 9, _, rfl, R2.1, by decide⟩) (lb rfl) (Rq.of (by omega) (by decide) (Nat.le_refl _) (Nat.le_refl _)) ?_
  rintro r G3 ⟨rfl, R3⟩
  have k1 := k0.tak (v := v) (by omega)
  refine b_X9_first_43.go C ⟨trivial, ?_⟩
  refine k_X9_first_46.go C X (r_takes (d + 8) G3 x ra _ (n + 1) u R3 (by omega) k1.1 (by have := k1.2; omega)) (rest := []) rfl rfl rfl (fun _ => ⟨x, 9, _, rfl, R3.1, by decide⟩) (lb rfl) (Rq.of (by omega) (by decide) (Nat.le_refl _) (Nat.le_refl _)) ?_
  rintro r G4 ⟨rfl, R4⟩
  refine b_X9_first_49.go C ⟨trivial, ?_⟩
  obtain ⟨hb1, hb2, hb3, hb4, hb5⟩ := hJ hB hf
  have RB : RR _ x ra (frsA n M v u) := R4
  refine k_X9_first_51.go C X (r_begins d _ x ra (frsA n M v u) (n + 1) (n + 1) m3 m4 I hb1 RB hb2 hb3 hb4 hb5) (rest := []) rfl rfl rfl (fun _ => ⟨x, 9, _, rfl, RB.1, by decide⟩) (lb rfl) (Rq.of (by omega) (by decide) (Nat.le_refl _) (Nat.le_refl _)) ?_
  rintro r G9 ⟨R9, rfl, J9⟩
  exact V_iret C X d_X9_first_54 (Nat.zero_le _) (Nat.zero_le _) ⟨by rw [eM]; exact R9, by rw [eC], fun _ _ => by rw [eM]; exact J9⟩
def mofB (M : MS) (v w u : Int32) : Bool := decide ((nI 1 ≤ v ∧ v ≤ M 1 0) ∧ (nI 0 ≤ w ∧ w ≤ nI 15) ∧ (nI 1 ≤ u ∧ u ≤ M 1 0))
def mofA (n : Nat) (M : MS) (v w u : Int32) : MS := up2 (takM (takM (madeM M n (nI 6) w (nI 0)) (n + 1) v) (n + 1) u) 7 (n + 1) u
def mofM (n : Nat) (M : MS) (v w u : Int32) : MS := if mofB M v w u = true then (if fulB n 1 = true then M else bgnM (n + 1) (mofA n M v w u) (n + 1)) else M
def mofC (n : Nat) (M : MS) (v w u : Int32) : Int32 := if mofB M v w u = true then (if fulB n 1 = true then -2 else nI (n + 1)) else -1
set_option maxHeartbeats 1000000 in
theorem r_onFailure (d : Nat) (G : GH) (x : Nat) (ra : Nat → Nat) (M : MS) (n : Nat) (v w u : Int32) (m3 m4 : Nat → Int32) (I : Nat → MS → Prop) (hR : RR G x ra M) (hn : M 1 0 = nI n) (hn2 : n ≤ 200) (h4 : n + 1 ≤ 200 → M 4 (n + 1) = nI 0) (hJ : mofB M v w u = true → fulB n 1 = false → BgP (n + 1) m3 m4 I (mofA n M v w u) (n + 1)) : Cd l yX9_onFailure cX9_onFailure 5 (some .int) (d + 10) 0 0 Y [.inr (.inr (some x)), .inl v, .inl w, .inl u] G (fun r G' => RR G' x ra (mofM n M v w u) ∧ r = some (.inl (mofC n M v w u)) ∧ (mofB M v w u = true → fulB n 1 = false → JJ I (mofM n M v w u))) := by
  refine Ct.of (ini := False) (by decide +kernel) False.elim rfl (Nat.le_of_ble_eq_true rfl) ?_
  intro p e s m args below meth c C X
  have bad : ¬ ((nI 1 ≤ v ∧ v ≤ M 1 0) ∧ (nI 0 ≤ w ∧ w ≤ nI 15) ∧ (nI 1 ≤ u ∧ u ≤ M 1 0)) → V p l e (RM (d + 10) 0 0) s m args below meth c Y (GA G s.heap.size) (QM below args s (RM (d + 10) 0 0) Y G (fun r G' => RR G' x ra (mofM n M v w u) ∧ r = some (.inl (mofC n M v w u)) ∧ (mofB M v w u = true → fulB n 1 = false → JJ I (mofM n M v w u)))) 26 G 0 0 [some (.inr (.inr (some x))), some (.inl v), some (.inl w), some (.inl u), none] [] := by
    intro hb
    have hb : mofB M v w u = false := decide_eq_false hb
    refine b_X9_onFailure_26.go C ⟨trivial, ?_⟩
    exact V_iret C X d_X9_onFailure_27 (Nat.zero_le _) (Nat.zero_le _) ⟨by rw [mofM, hb]; exact hR, by rw [mofC, hb]; rfl, fun q => absurd (hb.symm.trans q) (by decide)⟩
  refine b_X9_onFailure_0.go C ⟨trivial, ?_⟩
  refine k_X9_onFailure_2.go C X (r_isStage (d + 8) G x ra M v hR) (rest := []) rfl rfl rfl (fun _ => ⟨x, 9, _, rfl, hR.1, by decide⟩) (lb rfl) (Rq.of (by omega) (by decide) (Nat.le_refl _) (Nat.le_refl _)) ?_
  rintro r G9 ⟨h9, rfl⟩
  replace h9 := h9.symm
  subst h9
  refine b_X9_onFailure_5.go C ⟨fun h5 => ⟨trivial, ?_⟩, fun h5 => ⟨trivial, ?_⟩⟩
  · exact bad (fun q => of_decide_eq_false (bI_0 h5) (q.1))
  have t0 := of_decide_eq_true (bI_1 h5)
  refine b_X9_onFailure_8.go C ⟨trivial, ?_⟩
  refine k_X9_onFailure_12.go C X (r_in (d + 9) G w (nI 0) (nI 15)) (rest := []) rfl rfl rfl (fun h => absurd rfl h) (lb rfl) (Rq.of (by omega) (by decide) (Nat.le_refl _) (Nat.le_refl _)) ?_
  rintro r G9 ⟨h9, rfl⟩
  replace h9 := h9.symm
  subst h9
  refine b_X9_onFailure_15.go C ⟨fun h15 => ⟨trivial, ?_⟩, fun h15 => ⟨trivial, ?_⟩⟩
  · exact bad (fun q => of_decide_eq_false (bI_0 h15) (q.2.1))
  have t1 := of_decide_eq_true (bI_1 h15)
  refine b_X9_onFailure_18.go C ⟨trivial, ?_⟩
  refine k_X9_onFailure_20.go C X (r_isStage (d + 8) G x ra M u hR) (rest := []) rfl rfl rfl (fun _ => ⟨x, 9, _, rfl, hR.1, by decide⟩) (lb rfl) (Rq.of (by omega) (by decide) (Nat.le_refl _) (Nat.le_refl _)) ?_
  rintro r G9 ⟨h9, rfl⟩
  replace h9 := h9.symm
  subst h9
  refine b_X9_onFailure_23.go C ⟨fun h23 => ⟨trivial, ?_⟩, fun h23 => ⟨trivial, ?_⟩⟩
  rotate_left
  · exact bad (fun q => of_decide_eq_false (bI_0 h23) (q.2.2))
  have t2 := of_decide_eq_true (bI_1 h23)
  have hB : mofB M v w u = true := decide_eq_true ⟨t0, t1, t2⟩
  refine b_X9_onFailure_28.go C ⟨trivial, ?_⟩
  refine k_X9_onFailure_30.go C X (r_isFull (d + 9) G x ra M n 1 hR hn hn2 (by omega)) (rest := []) rfl rfl rfl (fun _ => ⟨x, 9, _, rfl, hR.1, by decide⟩) (lb rfl) (Rq.of (by omega) (by decide) (Nat.le_refl _) (Nat.le_refl _)) ?_
  rintro r G9 ⟨h9, rfl⟩
  replace h9 := h9.symm
  subst h9
  refine b_X9_onFailure_33.go C ⟨fun h33 => ⟨trivial, ?_⟩, fun h33 => ⟨trivial, ?_⟩⟩
  rotate_left
  · have hf : fulB n 1 = true := bI_1 h33
    refine b_X9_onFailure_36.go C ⟨trivial, ?_⟩
    exact V_iret C X d_X9_onFailure_38 (Nat.zero_le _) (Nat.zero_le _) ⟨by rw [mofM, hB, hf]; exact hR, by rw [mofC, hB, hf]; rfl, fun _ q => absurd (hf.symm.trans q) (by decide)⟩
  have hf : fulB n 1 = false := bI_0 h33
  have hf2 := fulB_0 hf
  have eM : mofM n M v w u = bgnM (n + 1) (mofA n M v w u) (n + 1) := by rw [mofM, hB, hf, if_pos rfl, if_neg Bool.false_ne_true]
  have eC : mofC n M v w u = nI (n + 1) := by rw [mofC, hB, hf, if_pos rfl, if_neg Bool.false_ne_true]
  refine b_X9_onFailure_39.go C ⟨trivial, ?_⟩
  refine k_X9_onFailure_44.go C X (r_made (d + 9) G x ra M n (nI 6) w (nI 0) hR hn (by omega)) (rest := []) rfl rfl rfl (fun _ => ⟨x, 9, _, rfl, hR.1, by decide⟩) (lb rfl) (Rq.of (by omega) (by decide) (Nat.le_refl _) (Nat.le_refl _)) ?_
  rintro r G2 ⟨rfl, R2⟩
  have k0 : kLe (madeM M n (nI 6) w (nI 0)) (n + 1) 0 := (kLe.z (h4 hf2)).of rfl
  refine b_X9_onFailure_47.go C ⟨trivial, ?_⟩
  refine k_X9_onFailure_53.go C X (r_takes (d + 8) G2 x ra _ (n + 1) v R2 (by omega) k0.1 (by have := k0.2; omega)) (rest := []) rfl rfl rfl (fun _ => ⟨x, 9, _, rfl, R2.1, by decide⟩) (lb rfl) (Rq.of (by omega) (by decide) (Nat.le_refl _) (Nat.le_refl _)) ?_
  rintro r G3 ⟨rfl, R3⟩
  have k1 := k0.tak (v := v) (by omega)
  refine b_X9_onFailure_56.go C ⟨trivial, ?_⟩
  refine k_X9_onFailure_60.go C X (r_takes (d + 8) G3 x ra _ (n + 1) u R3 (by omega) k1.1 (by have := k1.2; omega)) (rest := []) rfl rfl rfl (fun _ => ⟨x, 9, _, rfl, R3.1, by decide⟩) (lb rfl) (Rq.of (by omega) (by decide) (Nat.le_refl _) (Nat.le_refl _)) ?_
  rintro r G4 ⟨rfl, R4⟩
  have R1_ := R4.st 7 (n + 1) u (by decide) rfl
  refine b_X9_onFailure_63.go C ⟨_, R4.1, _, _, R4.2.1 7 (by decide) rfl, n + 1, rfl, by show n + 1 < 201; omega, lb rfl, trivial, ?_⟩
  obtain ⟨hb1, hb2, hb3, hb4, hb5⟩ := hJ hB hf
  have RB : RR _ x ra (mofA n M v w u) := R1_
  refine k_X9_onFailure_74.go C X (r_begins d _ x ra (mofA n M v w u) (n + 1) (n + 1) m3 m4 I hb1 RB hb2 hb3 hb4 hb5) (rest := []) rfl rfl rfl (fun _ => ⟨x, 9, _, rfl, RB.1, by decide⟩) (lb rfl) (Rq.of (by omega) (by decide) (Nat.le_refl _) (Nat.le_refl _)) ?_
  rintro r G9 ⟨R9, rfl, J9⟩
  exact V_iret C X d_X9_onFailure_77 (Nat.zero_le _) (Nat.zero_le _) ⟨by rw [eM]; exact R9, by rw [eC], fun _ _ => by rw [eM]; exact J9⟩
def limB (M : MS) (v w : Int32) : Bool := decide ((nI 1 ≤ v ∧ v ≤ M 1 0) ∧ (nI 1 ≤ w ∧ w ≤ nI 400))
def limA (n : Nat) (M : MS) (v w : Int32) : MS := up2 (takM (madeM M n (nI 8) (nI 0) (nI 0)) (n + 1) v) 32 (n + 1) ((takM (madeM M n (nI 8) (nI 0) (nI 0)) (n + 1) v) 0 0 + w)
def limM (n : Nat) (M : MS) (v w : Int32) : MS := if limB M v w = true then (if fulB n 1 = true then M else bgnM (n + 1) (limA n M v w) (n + 1)) else M
def limC (n : Nat) (M : MS) (v w : Int32) : Int32 := if limB M v w = true then (if fulB n 1 = true then -2 else nI (n + 1)) else -1
set_option maxHeartbeats 1000000 in
theorem r_limit (d : Nat) (G : GH) (x : Nat) (ra : Nat → Nat) (M : MS) (n : Nat) (v w : Int32) (m3 m4 : Nat → Int32) (I : Nat → MS → Prop) (hR : RR G x ra M) (hn : M 1 0 = nI n) (hn2 : n ≤ 200) (h4 : n + 1 ≤ 200 → M 4 (n + 1) = nI 0) (hJ : limB M v w = true → fulB n 1 = false → BgP (n + 1) m3 m4 I (limA n M v w) (n + 1)) : Cd l yX9_limit cX9_limit 4 (some .int) (d + 10) 0 0 Y [.inr (.inr (some x)), .inl v, .inl w] G (fun r G' => RR G' x ra (limM n M v w) ∧ r = some (.inl (limC n M v w)) ∧ (limB M v w = true → fulB n 1 = false → JJ I (limM n M v w))) := by
  refine Ct.of (ini := False) (by decide +kernel) False.elim rfl (Nat.le_of_ble_eq_true rfl) ?_
  intro p e s m args below meth c C X
  have bad : ¬ ((nI 1 ≤ v ∧ v ≤ M 1 0) ∧ (nI 1 ≤ w ∧ w ≤ nI 400)) → V p l e (RM (d + 10) 0 0) s m args below meth c Y (GA G s.heap.size) (QM below args s (RM (d + 10) 0 0) Y G (fun r G' => RR G' x ra (limM n M v w) ∧ r = some (.inl (limC n M v w)) ∧ (limB M v w = true → fulB n 1 = false → JJ I (limM n M v w)))) 19 G 0 0 [some (.inr (.inr (some x))), some (.inl v), some (.inl w), none] [] := by
    intro hb
    have hb : limB M v w = false := decide_eq_false hb
    refine b_X9_limit_19.go C ⟨trivial, ?_⟩
    exact V_iret C X d_X9_limit_20 (Nat.zero_le _) (Nat.zero_le _) ⟨by rw [limM, hb]; exact hR, by rw [limC, hb]; rfl, fun q => absurd (hb.symm.trans q) (by decide)⟩
  refine b_X9_limit_0.go C ⟨trivial, ?_⟩
  refine k_X9_limit_2.go C X (r_isStage (d + 8) G x ra M v hR) (rest := []) rfl rfl rfl (fun _ => ⟨x, 9, _, rfl, hR.1, by decide⟩) (lb rfl) (Rq.of (by omega) (by decide) (Nat.le_refl _) (Nat.le_refl _)) ?_
  rintro r G9 ⟨h9, rfl⟩
  replace h9 := h9.symm
  subst h9
  refine b_X9_limit_5.go C ⟨fun h5 => ⟨trivial, ?_⟩, fun h5 => ⟨trivial, ?_⟩⟩
  · exact bad (fun q => of_decide_eq_false (bI_0 h5) (q.1))
  have t0 := of_decide_eq_true (bI_1 h5)
  refine b_X9_limit_8.go C ⟨trivial, ?_⟩
  refine k_X9_limit_13.go C X (r_in (d + 9) G w (nI 1) (nI 400)) (rest := []) rfl rfl rfl (fun h => absurd rfl h) (lb rfl) (Rq.of (by omega) (by decide) (Nat.le_refl _) (Nat.le_refl _)) ?_
  rintro r G9 ⟨h9, rfl⟩
  replace h9 := h9.symm
  subst h9
  refine b_X9_limit_16.go C ⟨fun h16 => ⟨trivial, ?_⟩, fun h16 => ⟨trivial, ?_⟩⟩
  rotate_left
  · exact bad (fun q => of_decide_eq_false (bI_0 h16) (q.2))
  have t1 := of_decide_eq_true (bI_1 h16)
  have hB : limB M v w = true := decide_eq_true ⟨t0, t1⟩
  refine b_X9_limit_21.go C ⟨trivial, ?_⟩
  refine k_X9_limit_23.go C X (r_isFull (d + 9) G x ra M n 1 hR hn hn2 (by omega)) (rest := []) rfl rfl rfl (fun _ => ⟨x, 9, _, rfl, hR.1, by decide⟩) (lb rfl) (Rq.of (by omega) (by decide) (Nat.le_refl _) (Nat.le_refl _)) ?_
  rintro r G9 ⟨h9, rfl⟩
  replace h9 := h9.symm
  subst h9
  refine b_X9_limit_26.go C ⟨fun h26 => ⟨trivial, ?_⟩, fun h26 => ⟨trivial, ?_⟩⟩
  rotate_left
  · have hf : fulB n 1 = true := bI_1 h26
    refine b_X9_limit_29.go C ⟨trivial, ?_⟩
    exact V_iret C X d_X9_limit_31 (Nat.zero_le _) (Nat.zero_le _) ⟨by rw [limM, hB, hf]; exact hR, by rw [limC, hB, hf]; rfl, fun _ q => absurd (hf.symm.trans q) (by decide)⟩
  have hf : fulB n 1 = false := bI_0 h26
  have hf2 := fulB_0 hf
  have eM : limM n M v w = bgnM (n + 1) (limA n M v w) (n + 1) := by rw [limM, hB, hf, if_pos rfl, if_neg Bool.false_ne_true]
  have eC : limC n M v w = nI (n + 1) := by rw [limC, hB, hf, if_pos rfl, if_neg Bool.false_ne_true]
  refine b_X9_limit_32.go C ⟨trivial, ?_⟩
  refine k_X9_limit_37.go C X (r_made (d + 9) G x ra M n (nI 8) (nI 0) (nI 0) hR hn (by omega)) (rest := []) rfl rfl rfl (fun _ => ⟨x, 9, _, rfl, hR.1, by decide⟩) (lb rfl) (Rq.of (by omega) (by decide) (Nat.le_refl _) (Nat.le_refl _)) ?_
  rintro r G2 ⟨rfl, R2⟩
  have k0 : kLe (madeM M n (nI 8) (nI 0) (nI 0)) (n + 1) 0 := (kLe.z (h4 hf2)).of rfl
  refine b_X9_limit_40.go C ⟨trivial, ?_⟩
  refine k_X9_limit_44.go C X (r_takes (d + 8) G2 x ra _ (n + 1) v R2 (by omega) k0.1 (by have := k0.2; omega)) (rest := []) rfl rfl rfl (fun _ => ⟨x, 9, _, rfl, R2.1, by decide⟩) (lb rfl) (Rq.of (by omega) (by decide) (Nat.le_refl _) (Nat.le_refl _)) ?_
  rintro r G3 ⟨rfl, R3⟩
  have R1_ := R3.st 32 (n + 1) ((((takM (madeM M n (nI 8) (nI 0) (nI 0)) (n + 1) v)) 0 0) + w) (by decide) rfl
  refine b_X9_limit_47.go C ⟨_, R3.1, _, R3.1, _, rfl, _, _, R3.2.1 32 (by decide) rfl, n + 1, rfl, by show n + 1 < 201; omega, lb rfl, trivial, ?_⟩
  obtain ⟨hb1, hb2, hb3, hb4, hb5⟩ := hJ hB hf
  have RB : RR _ x ra (limA n M v w) := R1_
  refine k_X9_limit_61.go C X (r_begins d _ x ra (limA n M v w) (n + 1) (n + 1) m3 m4 I hb1 RB hb2 hb3 hb4 hb5) (rest := []) rfl rfl rfl (fun _ => ⟨x, 9, _, rfl, RB.1, by decide⟩) (lb rfl) (Rq.of (by omega) (by decide) (Nat.le_refl _) (Nat.le_refl _)) ?_
  rintro r G9 ⟨R9, rfl, J9⟩
  exact V_iret C X d_X9_limit_64 (Nat.zero_le _) (Nat.zero_le _) ⟨by rw [eM]; exact R9, by rw [eC], fun _ _ => by rw [eM]; exact J9⟩
def rtyB (M : MS) (v w a u z : Int32) : Bool := decide ((nI 1 ≤ v ∧ v ≤ nI 60) ∧ (nI 0 ≤ w ∧ w ≤ nI 4) ∧ (nI 0 ≤ u ∧ u ≤ nI 5) ∧ (nI 1 ≤ z ∧ z ≤ nI 30))
def rtyA (n : Nat) (M : MS) (v w a u z : Int32) : MS := up2 (up2 (newWM M n (nI 10) v w a) 29 (n + 1) u) 30 (n + 1) z
def rtyM (n : Nat) (M : MS) (v w a u z : Int32) : MS := if rtyB M v w a u z = true then (if fulB n 1 = true then M else rtyA n M v w a u z) else M
def rtyC (n : Nat) (M : MS) (v w a u z : Int32) : Int32 := if rtyB M v w a u z = true then (if fulB n 1 = true then -2 else nI (n + 1)) else -1
set_option maxHeartbeats 1000000 in
theorem r_retry (d : Nat) (G : GH) (x : Nat) (ra : Nat → Nat) (M : MS) (n : Nat) (v w a u z : Int32) (hR : RR G x ra M) (hn : M 1 0 = nI n) (hn2 : n ≤ 200) (h4 : n + 1 ≤ 200 → M 4 (n + 1) = nI 0) : Cd l yX9_retry cX9_retry 7 (some .int) (d + 2) 0 0 Y [.inr (.inr (some x)), .inl v, .inl w, .inl a, .inl u, .inl z] G (fun r G' => RR G' x ra (rtyM n M v w a u z) ∧ r = some (.inl (rtyC n M v w a u z))) := by
  refine Ct.of (ini := False) (by decide +kernel) False.elim rfl (Nat.le_of_ble_eq_true rfl) ?_
  intro p e s m args below meth c C X
  have bad : ¬ ((nI 1 ≤ v ∧ v ≤ nI 60) ∧ (nI 0 ≤ w ∧ w ≤ nI 4) ∧ (nI 0 ≤ u ∧ u ≤ nI 5) ∧ (nI 1 ≤ z ∧ z ≤ nI 30)) → V p l e (RM (d + 2) 0 0) s m args below meth c Y (GA G s.heap.size) (QM below args s (RM (d + 2) 0 0) Y G (fun r G' => RR G' x ra (rtyM n M v w a u z) ∧ r = some (.inl (rtyC n M v w a u z)))) 40 G 0 0 [some (.inr (.inr (some x))), some (.inl v), some (.inl w), some (.inl a), some (.inl u), some (.inl z), none] [] := by
    intro hb
    have hb : rtyB M v w a u z = false := decide_eq_false hb
    refine b_X9_retry_40.go C ⟨trivial, ?_⟩
    exact V_iret C X d_X9_retry_41 (Nat.zero_le _) (Nat.zero_le _) ⟨by rw [rtyM, hb]; exact hR, by rw [rtyC, hb]; rfl⟩
  refine b_X9_retry_0.go C ⟨trivial, ?_⟩
  refine k_X9_retry_4.go C X (r_in (d + 1) G v (nI 1) (nI 60)) (rest := []) rfl rfl rfl (fun h => absurd rfl h) (lb rfl) (Rq.of (by omega) (by decide) (Nat.le_refl _) (Nat.le_refl _)) ?_
  rintro r G9 ⟨h9, rfl⟩
  replace h9 := h9.symm
  subst h9
  refine b_X9_retry_7.go C ⟨fun h7 => ⟨trivial, ?_⟩, fun h7 => ⟨trivial, ?_⟩⟩
  · exact bad (fun q => of_decide_eq_false (bI_0 h7) (q.1))
  have t0 := of_decide_eq_true (bI_1 h7)
  refine b_X9_retry_10.go C ⟨trivial, ?_⟩
  refine k_X9_retry_13.go C X (r_in (d + 1) G w (nI 0) (nI 4)) (rest := []) rfl rfl rfl (fun h => absurd rfl h) (lb rfl) (Rq.of (by omega) (by decide) (Nat.le_refl _) (Nat.le_refl _)) ?_
  rintro r G9 ⟨h9, rfl⟩
  replace h9 := h9.symm
  subst h9
  refine b_X9_retry_16.go C ⟨fun h16 => ⟨trivial, ?_⟩, fun h16 => ⟨trivial, ?_⟩⟩
  · exact bad (fun q => of_decide_eq_false (bI_0 h16) (q.2.1))
  have t1 := of_decide_eq_true (bI_1 h16)
  refine b_X9_retry_19.go C ⟨trivial, ?_⟩
  refine k_X9_retry_23.go C X (r_in (d + 1) G u (nI 0) (nI 5)) (rest := []) rfl rfl rfl (fun h => absurd rfl h) (lb rfl) (Rq.of (by omega) (by decide) (Nat.le_refl _) (Nat.le_refl _)) ?_
  rintro r G9 ⟨h9, rfl⟩
  replace h9 := h9.symm
  subst h9
  refine b_X9_retry_26.go C ⟨fun h26 => ⟨trivial, ?_⟩, fun h26 => ⟨trivial, ?_⟩⟩
  · exact bad (fun q => of_decide_eq_false (bI_0 h26) (q.2.2.1))
  have t2 := of_decide_eq_true (bI_1 h26)
  refine b_X9_retry_29.go C ⟨trivial, ?_⟩
  refine k_X9_retry_34.go C X (r_in (d + 1) G z (nI 1) (nI 30)) (rest := []) rfl rfl rfl (fun h => absurd rfl h) (lb rfl) (Rq.of (by omega) (by decide) (Nat.le_refl _) (Nat.le_refl _)) ?_
  rintro r G9 ⟨h9, rfl⟩
  replace h9 := h9.symm
  subst h9
  refine b_X9_retry_37.go C ⟨fun h37 => ⟨trivial, ?_⟩, fun h37 => ⟨trivial, ?_⟩⟩
  rotate_left
  · exact bad (fun q => of_decide_eq_false (bI_0 h37) (q.2.2.2))
  have t3 := of_decide_eq_true (bI_1 h37)
  have hB : rtyB M v w a u z = true := decide_eq_true ⟨t0, t1, t2, t3⟩
  refine b_X9_retry_42.go C ⟨trivial, ?_⟩
  refine k_X9_retry_44.go C X (r_isFull (d + 1) G x ra M n 1 hR hn hn2 (by omega)) (rest := []) rfl rfl rfl (fun _ => ⟨x, 9, _, rfl, hR.1, by decide⟩) (lb rfl) (Rq.of (by omega) (by decide) (Nat.le_refl _) (Nat.le_refl _)) ?_
  rintro r G9 ⟨h9, rfl⟩
  replace h9 := h9.symm
  subst h9
  refine b_X9_retry_47.go C ⟨fun h47 => ⟨trivial, ?_⟩, fun h47 => ⟨trivial, ?_⟩⟩
  rotate_left
  · have hf : fulB n 1 = true := bI_1 h47
    refine b_X9_retry_50.go C ⟨trivial, ?_⟩
    exact V_iret C X d_X9_retry_52 (Nat.zero_le _) (Nat.zero_le _) ⟨by rw [rtyM, hB, hf]; exact hR, by rw [rtyC, hB, hf]; rfl⟩
  have hf : fulB n 1 = false := bI_0 h47
  have hf2 := fulB_0 hf
  have eM : rtyM n M v w a u z = rtyA n M v w a u z := by rw [rtyM, hB, hf, if_pos rfl, if_neg Bool.false_ne_true]
  have eC : rtyC n M v w a u z = nI (n + 1) := by rw [rtyC, hB, hf, if_pos rfl, if_neg Bool.false_ne_true]
  refine b_X9_retry_53.go C ⟨trivial, ?_⟩
  refine k_X9_retry_59.go C X (r_newWork d G x ra M n (nI 10) v w a hR hn (by omega)) (rest := []) rfl rfl rfl (fun _ => ⟨x, 9, _, rfl, hR.1, by decide⟩) (lb rfl) (Rq.of (by omega) (by decide) (Nat.le_refl _) (Nat.le_refl _)) ?_
  rintro r G2 ⟨rfl, R2⟩
  have R1_ := R2.st 29 (n + 1) u (by decide) rfl
  have R2_ := R1_.st 30 (n + 1) z (by decide) rfl
  refine b_X9_retry_62.go C ⟨_, R2.1, _, _, R2.2.1 29 (by decide) rfl, n + 1, rfl, by show n + 1 < 201; omega, lb rfl, _, R1_.1, _, _, R1_.2.1 30 (by decide) rfl, n + 1, rfl, by show n + 1 < 201; omega, lb rfl, trivial, ?_⟩
  exact V_iret C X d_X9_retry_84 (Nat.zero_le _) (Nat.zero_le _) ⟨by rw [eM]; exact R2_, by rw [eC]⟩
def nstB (M : MS) (v w a u : Int32) : Bool := decide ((nI 2 ≤ v ∧ v ≤ nI 60) ∧ (nI 0 ≤ w ∧ w ≤ nI 4) ∧ (nI 1 ≤ u ∧ u ≤ M 1 0))
def nstA (n : Nat) (M : MS) (v w a u : Int32) : MS := takM (newWM M n (nI 11) v w a) (n + 1) u
def nstM (n : Nat) (M : MS) (v w a u : Int32) : MS := if nstB M v w a u = true then (if fulB n 1 = true then M else nstA n M v w a u) else M
def nstC (n : Nat) (M : MS) (v w a u : Int32) : Int32 := if nstB M v w a u = true then (if fulB n 1 = true then -2 else nI (n + 1)) else -1
set_option maxHeartbeats 1000000 in
theorem r_nested (d : Nat) (G : GH) (x : Nat) (ra : Nat → Nat) (M : MS) (n : Nat) (v w a u : Int32) (hR : RR G x ra M) (hn : M 1 0 = nI n) (hn2 : n ≤ 200) (h4 : n + 1 ≤ 200 → M 4 (n + 1) = nI 0) : Cd l yX9_nested cX9_nested 6 (some .int) (d + 3) 0 0 Y [.inr (.inr (some x)), .inl v, .inl w, .inl a, .inl u] G (fun r G' => RR G' x ra (nstM n M v w a u) ∧ r = some (.inl (nstC n M v w a u))) := by
  refine Ct.of (ini := False) (by decide +kernel) False.elim rfl (Nat.le_of_ble_eq_true rfl) ?_
  intro p e s m args below meth c C X
  have bad : ¬ ((nI 2 ≤ v ∧ v ≤ nI 60) ∧ (nI 0 ≤ w ∧ w ≤ nI 4) ∧ (nI 1 ≤ u ∧ u ≤ M 1 0)) → V p l e (RM (d + 3) 0 0) s m args below meth c Y (GA G s.heap.size) (QM below args s (RM (d + 3) 0 0) Y G (fun r G' => RR G' x ra (nstM n M v w a u) ∧ r = some (.inl (nstC n M v w a u)))) 28 G 0 0 [some (.inr (.inr (some x))), some (.inl v), some (.inl w), some (.inl a), some (.inl u), none] [] := by
    intro hb
    have hb : nstB M v w a u = false := decide_eq_false hb
    refine b_X9_nested_28.go C ⟨trivial, ?_⟩
    exact V_iret C X d_X9_nested_29 (Nat.zero_le _) (Nat.zero_le _) ⟨by rw [nstM, hb]; exact hR, by rw [nstC, hb]; rfl⟩
  refine b_X9_nested_0.go C ⟨trivial, ?_⟩
  refine k_X9_nested_4.go C X (r_in (d + 2) G v (nI 2) (nI 60)) (rest := []) rfl rfl rfl (fun h => absurd rfl h) (lb rfl) (Rq.of (by omega) (by decide) (Nat.le_refl _) (Nat.le_refl _)) ?_
  rintro r G9 ⟨h9, rfl⟩
  replace h9 := h9.symm
  subst h9
  refine b_X9_nested_7.go C ⟨fun h7 => ⟨trivial, ?_⟩, fun h7 => ⟨trivial, ?_⟩⟩
  · exact bad (fun q => of_decide_eq_false (bI_0 h7) (q.1))
  have t0 := of_decide_eq_true (bI_1 h7)
  refine b_X9_nested_10.go C ⟨trivial, ?_⟩
  refine k_X9_nested_13.go C X (r_in (d + 2) G w (nI 0) (nI 4)) (rest := []) rfl rfl rfl (fun h => absurd rfl h) (lb rfl) (Rq.of (by omega) (by decide) (Nat.le_refl _) (Nat.le_refl _)) ?_
  rintro r G9 ⟨h9, rfl⟩
  replace h9 := h9.symm
  subst h9
  refine b_X9_nested_16.go C ⟨fun h16 => ⟨trivial, ?_⟩, fun h16 => ⟨trivial, ?_⟩⟩
  · exact bad (fun q => of_decide_eq_false (bI_0 h16) (q.2.1))
  have t1 := of_decide_eq_true (bI_1 h16)
  refine b_X9_nested_19.go C ⟨trivial, ?_⟩
  refine k_X9_nested_22.go C X (r_isStage (d + 1) G x ra M u hR) (rest := []) rfl rfl rfl (fun _ => ⟨x, 9, _, rfl, hR.1, by decide⟩) (lb rfl) (Rq.of (by omega) (by decide) (Nat.le_refl _) (Nat.le_refl _)) ?_
  rintro r G9 ⟨h9, rfl⟩
  replace h9 := h9.symm
  subst h9
  refine b_X9_nested_25.go C ⟨fun h25 => ⟨trivial, ?_⟩, fun h25 => ⟨trivial, ?_⟩⟩
  rotate_left
  · exact bad (fun q => of_decide_eq_false (bI_0 h25) (q.2.2))
  have t2 := of_decide_eq_true (bI_1 h25)
  have hB : nstB M v w a u = true := decide_eq_true ⟨t0, t1, t2⟩
  refine b_X9_nested_30.go C ⟨trivial, ?_⟩
  refine k_X9_nested_32.go C X (r_isFull (d + 2) G x ra M n 1 hR hn hn2 (by omega)) (rest := []) rfl rfl rfl (fun _ => ⟨x, 9, _, rfl, hR.1, by decide⟩) (lb rfl) (Rq.of (by omega) (by decide) (Nat.le_refl _) (Nat.le_refl _)) ?_
  rintro r G9 ⟨h9, rfl⟩
  replace h9 := h9.symm
  subst h9
  refine b_X9_nested_35.go C ⟨fun h35 => ⟨trivial, ?_⟩, fun h35 => ⟨trivial, ?_⟩⟩
  rotate_left
  · have hf : fulB n 1 = true := bI_1 h35
    refine b_X9_nested_38.go C ⟨trivial, ?_⟩
    exact V_iret C X d_X9_nested_40 (Nat.zero_le _) (Nat.zero_le _) ⟨by rw [nstM, hB, hf]; exact hR, by rw [nstC, hB, hf]; rfl⟩
  have hf : fulB n 1 = false := bI_0 h35
  have hf2 := fulB_0 hf
  have eM : nstM n M v w a u = nstA n M v w a u := by rw [nstM, hB, hf, if_pos rfl, if_neg Bool.false_ne_true]
  have eC : nstC n M v w a u = nI (n + 1) := by rw [nstC, hB, hf, if_pos rfl, if_neg Bool.false_ne_true]
  refine b_X9_nested_41.go C ⟨trivial, ?_⟩
  refine k_X9_nested_47.go C X (r_newWork (d + 1) G x ra M n (nI 11) v w a hR hn (by omega)) (rest := []) rfl rfl rfl (fun _ => ⟨x, 9, _, rfl, hR.1, by decide⟩) (lb rfl) (Rq.of (by omega) (by decide) (Nat.le_refl _) (Nat.le_refl _)) ?_
  rintro r G2 ⟨rfl, R2⟩
  have k0 : kLe (newWM M n (nI 11) v w a) (n + 1) 0 := (kLe.z (h4 hf2)).of rfl
  refine b_X9_nested_50.go C ⟨trivial, ?_⟩
  refine k_X9_nested_57.go C X (r_takes (d + 1) G2 x ra _ (n + 1) u R2 (by omega) k0.1 (by have := k0.2; omega)) (rest := []) rfl rfl rfl (fun _ => ⟨x, 9, _, rfl, R2.1, by decide⟩) (lb rfl) (Rq.of (by omega) (by decide) (Nat.le_refl _) (Nat.le_refl _)) ?_
  rintro r G3 ⟨rfl, R3⟩
  refine b_X9_nested_60.go C ⟨trivial, ?_⟩
  exact V_iret C X d_X9_nested_62 (Nat.zero_le _) (Nat.zero_le _) ⟨by rw [eM]; exact R3, by rw [eC]⟩
def mawQ (n : Nat) (M : MS) (v w u a : Int32) : MS := up2 (takM (newWM M n (nI 12) w u a) (n + 1) v) 19 (n + 1) (if (takM (newWM M n (nI 12) w u a) (n + 1) v) 8 v.toNatClampNeg = 0 then nI 0 else nI 1)
def mawB (M : MS) (v w u a : Int32) : Bool := decide ((nI 1 ≤ v ∧ v ≤ M 1 0) ∧ (nI 1 ≤ w ∧ w ≤ nI 60) ∧ (nI 0 ≤ u ∧ u ≤ nI 4))
def mawA (n : Nat) (M : MS) (v w u a : Int32) : MS := up2 (takM (takM (madeM (mawQ n M v w u a) (n + 1) (nI 7) (nI 0) (nI 0)) (n + 2) v) (n + 2) (nI (n + 1))) 7 (n + 2) (nI (n + 1))
def mawM (n : Nat) (M : MS) (v w u a : Int32) : MS := if mawB M v w u a = true then (if fulB n 2 = true then M else bgnM (n + 2) (mawA n M v w u a) (n + 2)) else M
def mawC (n : Nat) (M : MS) (v w u a : Int32) : Int32 := if mawB M v w u a = true then (if fulB n 2 = true then -2 else nI (n + 2)) else -1
set_option maxHeartbeats 1000000 in
theorem r_always (d : Nat) (G : GH) (x : Nat) (ra : Nat → Nat) (M : MS) (n : Nat) (v w u a : Int32) (m3 m4 : Nat → Int32) (I : Nat → MS → Prop) (hR : RR G x ra M) (hn : M 1 0 = nI n) (hn2 : n ≤ 200) (h4 : n + 1 ≤ 200 → M 4 (n + 1) = nI 0) (h4b : n + 2 ≤ 200 → M 4 (n + 2) = nI 0) (hJ : mawB M v w u a = true → fulB n 2 = false → BgP (n + 2) m3 m4 I (mawA n M v w u a) (n + 2)) : Cd l yX9_always cX9_always 7 (some .int) (d + 10) 0 0 Y [.inr (.inr (some x)), .inl v, .inl w, .inl u, .inl a] G (fun r G' => RR G' x ra (mawM n M v w u a) ∧ r = some (.inl (mawC n M v w u a)) ∧ (mawB M v w u a = true → fulB n 2 = false → JJ I (mawM n M v w u a))) := by
  refine Ct.of (ini := False) (by decide +kernel) False.elim rfl (Nat.le_of_ble_eq_true rfl) ?_
  intro p e s m args below meth c C X
  have bad : ¬ ((nI 1 ≤ v ∧ v ≤ M 1 0) ∧ (nI 1 ≤ w ∧ w ≤ nI 60) ∧ (nI 0 ≤ u ∧ u ≤ nI 4)) → V p l e (RM (d + 10) 0 0) s m args below meth c Y (GA G s.heap.size) (QM below args s (RM (d + 10) 0 0) Y G (fun r G' => RR G' x ra (mawM n M v w u a) ∧ r = some (.inl (mawC n M v w u a)) ∧ (mawB M v w u a = true → fulB n 2 = false → JJ I (mawM n M v w u a)))) 27 G 0 0 [some (.inr (.inr (some x))), some (.inl v), some (.inl w), some (.inl u), some (.inl a), none, none] [] := by
    intro hb
    have hb : mawB M v w u a = false := decide_eq_false hb
    refine b_X9_always_27.go C ⟨trivial, ?_⟩
    exact V_iret C X d_X9_always_28 (Nat.zero_le _) (Nat.zero_le _) ⟨by rw [mawM, hb]; exact hR, by rw [mawC, hb]; rfl, fun q => absurd (hb.symm.trans q) (by decide)⟩
  refine b_X9_always_0.go C ⟨trivial, ?_⟩
  refine k_X9_always_2.go C X (r_isStage (d + 8) G x ra M v hR) (rest := []) rfl rfl rfl (fun _ => ⟨x, 9, _, rfl, hR.1, by decide⟩) (lb rfl) (Rq.of (by omega) (by decide) (Nat.le_refl _) (Nat.le_refl _)) ?_
  rintro r G9 ⟨h9, rfl⟩
  replace h9 := h9.symm
  subst h9
  refine b_X9_always_5.go C ⟨fun h5 => ⟨trivial, ?_⟩, fun h5 => ⟨trivial, ?_⟩⟩
  · exact bad (fun q => of_decide_eq_false (bI_0 h5) (q.1))
  have t0 := of_decide_eq_true (bI_1 h5)
  refine b_X9_always_8.go C ⟨trivial, ?_⟩
  refine k_X9_always_12.go C X (r_in (d + 9) G w (nI 1) (nI 60)) (rest := []) rfl rfl rfl (fun h => absurd rfl h) (lb rfl) (Rq.of (by omega) (by decide) (Nat.le_refl _) (Nat.le_refl _)) ?_
  rintro r G9 ⟨h9, rfl⟩
  replace h9 := h9.symm
  subst h9
  refine b_X9_always_15.go C ⟨fun h15 => ⟨trivial, ?_⟩, fun h15 => ⟨trivial, ?_⟩⟩
  · exact bad (fun q => of_decide_eq_false (bI_0 h15) (q.2.1))
  have t1 := of_decide_eq_true (bI_1 h15)
  refine b_X9_always_18.go C ⟨trivial, ?_⟩
  refine k_X9_always_21.go C X (r_in (d + 9) G u (nI 0) (nI 4)) (rest := []) rfl rfl rfl (fun h => absurd rfl h) (lb rfl) (Rq.of (by omega) (by decide) (Nat.le_refl _) (Nat.le_refl _)) ?_
  rintro r G9 ⟨h9, rfl⟩
  replace h9 := h9.symm
  subst h9
  refine b_X9_always_24.go C ⟨fun h24 => ⟨trivial, ?_⟩, fun h24 => ⟨trivial, ?_⟩⟩
  rotate_left
  · exact bad (fun q => of_decide_eq_false (bI_0 h24) (q.2.2))
  have t2 := of_decide_eq_true (bI_1 h24)
  have hB : mawB M v w u a = true := decide_eq_true ⟨t0, t1, t2⟩
  refine b_X9_always_29.go C ⟨trivial, ?_⟩
  refine k_X9_always_31.go C X (r_isFull (d + 9) G x ra M n 2 hR hn hn2 (by omega)) (rest := []) rfl rfl rfl (fun _ => ⟨x, 9, _, rfl, hR.1, by decide⟩) (lb rfl) (Rq.of (by omega) (by decide) (Nat.le_refl _) (Nat.le_refl _)) ?_
  rintro r G9 ⟨h9, rfl⟩
  replace h9 := h9.symm
  subst h9
  refine b_X9_always_34.go C ⟨fun h34 => ⟨trivial, ?_⟩, fun h34 => ⟨trivial, ?_⟩⟩
  rotate_left
  · have hf : fulB n 2 = true := bI_1 h34
    refine b_X9_always_37.go C ⟨trivial, ?_⟩
    exact V_iret C X d_X9_always_39 (Nat.zero_le _) (Nat.zero_le _) ⟨by rw [mawM, hB, hf]; exact hR, by rw [mawC, hB, hf]; rfl, fun _ q => absurd (hf.symm.trans q) (by decide)⟩
  have hf : fulB n 2 = false := bI_0 h34
  have hf2 := fulB_0 hf
  have eM : mawM n M v w u a = bgnM (n + 2) (mawA n M v w u a) (n + 2) := by rw [mawM, hB, hf, if_pos rfl, if_neg Bool.false_ne_true]
  have eC : mawC n M v w u a = nI (n + 2) := by rw [mawC, hB, hf, if_pos rfl, if_neg Bool.false_ne_true]
  obtain ⟨t, ht1, ht, rfl⟩ := st_of hn hn2 t0
  have ev : (nI t).toNatClampNeg = t := nI_clamp (by omega)
  refine b_X9_always_40.go C ⟨trivial, ?_⟩
  refine k_X9_always_47.go C X (r_newWork (d + 8) G x ra M n (nI 12) w u a hR hn (by omega)) (rest := []) rfl rfl rfl (fun _ => ⟨x, 9, _, rfl, hR.1, by decide⟩) (lb rfl) (Rq.of (by omega) (by decide) (Nat.le_refl _) (Nat.le_refl _)) ?_
  rintro r G2 ⟨rfl, R2⟩
  have k0 : kLe (newWM M n (nI 12) w u a) (n + 1) 0 := (kLe.z (h4 (by omega))).of rfl
  refine b_X9_always_50.go C ⟨trivial, ?_⟩
  refine k_X9_always_56.go C X (r_takes (d + 8) G2 x ra _ (n + 1) (nI t) R2 (by omega) k0.1 (by have := k0.2; omega)) (rest := []) rfl rfl rfl (fun _ => ⟨x, 9, _, rfl, R2.1, by decide⟩) (lb rfl) (Rq.of (by omega) (by decide) (Nat.le_refl _) (Nat.le_refl _)) ?_
  rintro r G3 ⟨rfl, R3⟩
  have q1 : takM (newWM M n (nI 12) w u a) (n + 1) (nI t) 1 0 = nI (n + 1) := by unfold takM; split <;> rfl
  have q4 : takM (newWM M n (nI 12) w u a) (n + 1) (nI t) 4 (n + 2) = nI 0 := by unfold takM; split; exact h4b hf2; rw [up2_i (by omega)]; exact h4b hf2
  have go : ∀ z : Int32, mawQ n M (nI t) w u a = up2 (takM (newWM M n (nI 12) w u a) (n + 1) (nI t)) 19 (n + 1) z → V p l e (RM (d + 10) 0 0) s m args below meth c Y (GA G s.heap.size) (QM below args s (RM (d + 10) 0 0) Y G (fun r G' => RR G' x ra (mawM n M (nI t) w u a) ∧ r = some (.inl (mawC n M (nI t) w u a)) ∧ (mawB M (nI t) w u a = true → fulB n 2 = false → JJ I (mawM n M (nI t) w u a)))) 79 G3 0 0 [some (.inr (.inr (some x))), some (.inl (nI t)), some (.inl w), some (.inl u), some (.inl a), some (.inl (nI (n + 1))), none] [.inl z, .inl (nI (n + 1)), .inr (.inr (some (ra 19)))] := by
    intro z hz
    have R1_ := R3.st 19 (n + 1) z (by decide) rfl
    refine b_X9_always_79.go C ⟨_, _, R3.2.1 19 (by decide) rfl, n + 1, rfl, by show n + 1 < 201; omega, lb rfl, trivial, ?_⟩
    have R4 := R1_
    rw [← hz] at R4
    have e1 : mawQ n M (nI t) w u a 1 0 = nI (n + 1) := q1
    have e4 : mawQ n M (nI t) w u a 4 (n + 2) = nI 0 := q4
    refine k_X9_always_85.go C X (r_made (d + 9) _ x ra _ (n + 1) (nI 7) (nI 0) (nI 0) R4 e1 (by omega)) (rest := []) rfl rfl rfl (fun _ => ⟨x, 9, _, rfl, R4.1, by decide⟩) (lb rfl) (Rq.of (by omega) (by decide) (Nat.le_refl _) (Nat.le_refl _)) ?_
    rintro r G5 ⟨rfl, R5⟩
    have k1 : kLe (madeM (mawQ n M (nI t) w u a) (n + 1) (nI 7) (nI 0) (nI 0)) (n + 2) 0 := (kLe.z e4).of rfl
    refine b_X9_always_88.go C ⟨trivial, ?_⟩
    refine k_X9_always_94.go C X (r_takes (d + 8) G5 x ra _ (n + 2) (nI t) R5 (by omega) k1.1 (by have := k1.2; omega)) (rest := []) rfl rfl rfl (fun _ => ⟨x, 9, _, rfl, R5.1, by decide⟩) (lb rfl) (Rq.of (by omega) (by decide) (Nat.le_refl _) (Nat.le_refl _)) ?_
    rintro r G6 ⟨rfl, R6⟩
    have k2 := k1.tak (v := nI t) (by omega)
    refine b_X9_always_97.go C ⟨trivial, ?_⟩
    refine k_X9_always_102.go C X (r_takes (d + 8) G6 x ra _ (n + 2) (nI (n + 1)) R6 (by omega) k2.1 (by have := k2.2; omega)) (rest := []) rfl rfl rfl (fun _ => ⟨x, 9, _, rfl, R6.1, by decide⟩) (lb rfl) (Rq.of (by omega) (by decide) (Nat.le_refl _) (Nat.le_refl _)) ?_
    rintro r G7 ⟨rfl, R7⟩
    have R2_ := R7.st 7 (n + 2) (nI (n + 1)) (by decide) rfl
    refine b_X9_always_105.go C ⟨_, R7.1, _, _, R7.2.1 7 (by decide) rfl, n + 2, rfl, by show n + 2 < 201; omega, lb rfl, trivial, ?_⟩
    obtain ⟨hb1, hb2, hb3, hb4, hb5⟩ := hJ hB hf
    have RB : RR _ x ra (mawA n M (nI t) w u a) := R2_
    refine k_X9_always_117.go C X (r_begins d _ x ra (mawA n M (nI t) w u a) (n + 2) (n + 2) m3 m4 I hb1 RB hb2 hb3 hb4 hb5) (rest := []) rfl rfl rfl (fun _ => ⟨x, 9, _, rfl, RB.1, by decide⟩) (lb rfl) (Rq.of (by omega) (by decide) (Nat.le_refl _) (Nat.le_refl _)) ?_
    rintro r G9 ⟨R9, rfl, J9⟩
    exact V_iret C X d_X9_always_120 (Nat.zero_le _) (Nat.zero_le _) ⟨by rw [eM]; exact R9, by rw [eC], fun _ _ => by rw [eM]; exact J9⟩
  refine b_X9_always_59.go C ⟨_, R3.1, _, R3.1, _, _, R3.2.1 8 (by decide) rfl, t, rfl, by show t < 201; omega, lb rfl, _, rfl, fun h59 => ⟨trivial, ?_⟩, fun h59 => ⟨trivial, ?_⟩⟩
  · refine b_X9_always_78.go C ⟨trivial, ?_⟩
    exact go _ (by rw [mawQ, ev, if_neg h59])
  · refine b_X9_always_74.go C ⟨trivial, ?_⟩
    exact go _ (by rw [mawQ, ev, if_pos h59])
def rowF (t fr : Nat) : Nat → Nat → MS → MS
  | 0, _, M => M
  | q + 1, k, M => rowF t fr q (k + 1) (takM M t (nI (fr + k)))
def rowB (M : MS) (v q w : Int32) : Bool := decide ((nI 1 ≤ q ∧ q ≤ nI 24) ∧ (nI 1 ≤ w ∧ w ≤ q) ∧ (nI 1 ≤ v ∧ v ≤ M 1 0) ∧ v ≤ M 1 0 - q + nI 1)
def rowA (n : Nat) (M : MS) (so v q w : Int32) : MS := rowF (n + 1) v.toNatClampNeg q.toNatClampNeg 0 (up2 (madeM M n so (nI 0) (nI 0)) 7 (n + 1) w)
def rowM (n : Nat) (M : MS) (so v q w : Int32) : MS := if rowB M v q w = true then (if fulB n 1 = true then M else bgnM (n + 1) (rowA n M so v q w) (n + 1)) else M
def rowC (n : Nat) (M : MS) (v q w : Int32) : Int32 := if rowB M v q w = true then (if fulB n 1 = true then -2 else nI (n + 1)) else -1
set_option maxHeartbeats 1000000 in
theorem r_row (d : Nat) (G : GH) (x : Nat) (ra : Nat → Nat) (M : MS) (n : Nat) (so v q w : Int32) (m3 m4 : Nat → Int32) (I : Nat → MS → Prop) (hR : RR G x ra M) (hn : M 1 0 = nI n) (hn2 : n ≤ 200) (h4 : n + 1 ≤ 200 → M 4 (n + 1) = nI 0) (hJ : rowB M v q w = true → fulB n 1 = false → BgP (n + 1) m3 m4 I (rowA n M so v q w) (n + 1)) : Cd l yX9_row cX9_row 7 (some .int) (d + 10) 0 0 Y [.inr (.inr (some x)), .inl so, .inl v, .inl q, .inl w] G (fun r G' => RR G' x ra (rowM n M so v q w) ∧ r = some (.inl (rowC n M v q w)) ∧ (rowB M v q w = true → fulB n 1 = false → JJ I (rowM n M so v q w))) := by
  refine Ct.of (ini := False) (by decide +kernel) False.elim rfl (Nat.le_of_ble_eq_true rfl) ?_
  intro p e s m args below meth c C X
  have bad : ¬ ((nI 1 ≤ q ∧ q ≤ nI 24) ∧ (nI 1 ≤ w ∧ w ≤ q) ∧ (nI 1 ≤ v ∧ v ≤ M 1 0) ∧ v ≤ M 1 0 - q + nI 1) → V p l e (RM (d + 10) 0 0) s m args below meth c Y (GA G s.heap.size) (QM below args s (RM (d + 10) 0 0) Y G (fun r G' => RR G' x ra (rowM n M so v q w) ∧ r = some (.inl (rowC n M v q w)) ∧ (rowB M v q w = true → fulB n 1 = false → JJ I (rowM n M so v q w)))) 40 G 0 0 [some (.inr (.inr (some x))), some (.inl so), some (.inl v), some (.inl q), some (.inl w), none, none] [] := by
    intro hb
    have hb : rowB M v q w = false := decide_eq_false hb
    refine b_X9_row_40.go C ⟨trivial, ?_⟩
    exact V_iret C X d_X9_row_41 (Nat.zero_le _) (Nat.zero_le _) ⟨by rw [rowM, hb]; exact hR, by rw [rowC, hb]; rfl, fun q => absurd (hb.symm.trans q) (by decide)⟩
  refine b_X9_row_0.go C ⟨trivial, ?_⟩
  refine k_X9_row_4.go C X (r_in (d + 9) G q (nI 1) (nI 24)) (rest := []) rfl rfl rfl (fun h => absurd rfl h) (lb rfl) (Rq.of (by omega) (by decide) (Nat.le_refl _) (Nat.le_refl _)) ?_
  rintro r G9 ⟨h9, rfl⟩
  replace h9 := h9.symm
  subst h9
  refine b_X9_row_7.go C ⟨fun h7 => ⟨trivial, ?_⟩, fun h7 => ⟨trivial, ?_⟩⟩
  · exact bad (fun z => of_decide_eq_false (bI_0 h7) z.1)
  have t0 := of_decide_eq_true (bI_1 h7)
  refine b_X9_row_10.go C ⟨trivial, ?_⟩
  refine k_X9_row_14.go C X (r_in (d + 9) G w (nI 1) q) (rest := []) rfl rfl rfl (fun h => absurd rfl h) (lb rfl) (Rq.of (by omega) (by decide) (Nat.le_refl _) (Nat.le_refl _)) ?_
  rintro r G9 ⟨h9, rfl⟩
  replace h9 := h9.symm
  subst h9
  refine b_X9_row_17.go C ⟨fun h17 => ⟨trivial, ?_⟩, fun h17 => ⟨trivial, ?_⟩⟩
  · exact bad (fun z => of_decide_eq_false (bI_0 h17) z.2.1)
  have t1 := of_decide_eq_true (bI_1 h17)
  refine b_X9_row_20.go C ⟨trivial, ?_⟩
  refine k_X9_row_22.go C X (r_isStage (d + 8) G x ra M v hR) (rest := []) rfl rfl rfl (fun _ => ⟨x, 9, _, rfl, hR.1, by decide⟩) (lb rfl) (Rq.of (by omega) (by decide) (Nat.le_refl _) (Nat.le_refl _)) ?_
  rintro r G9 ⟨h9, rfl⟩
  replace h9 := h9.symm
  subst h9
  refine b_X9_row_25.go C ⟨fun h25 => ⟨trivial, ?_⟩, fun h25 => ⟨trivial, ?_⟩⟩
  · exact bad (fun z => of_decide_eq_false (bI_0 h25) z.2.2.1)
  have t2 := of_decide_eq_true (bI_1 h25)
  refine b_X9_row_28.go C ⟨_, hR.1, _, rfl, _, rfl, fun h28 => ⟨trivial, ?_⟩, fun h28 => ⟨trivial, ?_⟩⟩
  rotate_left
  · exact bad (fun z => h28 z.2.2.2)
  have hB : rowB M v q w = true := decide_eq_true ⟨t0, t1, t2, h28⟩
  refine b_X9_row_42.go C ⟨trivial, ?_⟩
  refine k_X9_row_44.go C X (r_isFull (d + 9) G x ra M n 1 hR hn hn2 (by omega)) (rest := []) rfl rfl rfl (fun _ => ⟨x, 9, _, rfl, hR.1, by decide⟩) (lb rfl) (Rq.of (by omega) (by decide) (Nat.le_refl _) (Nat.le_refl _)) ?_
  rintro r G9 ⟨h9, rfl⟩
  replace h9 := h9.symm
  subst h9
  refine b_X9_row_47.go C ⟨fun h47 => ⟨trivial, ?_⟩, fun h47 => ⟨trivial, ?_⟩⟩
  rotate_left
  · have hf : fulB n 1 = true := bI_1 h47
    refine b_X9_row_50.go C ⟨trivial, ?_⟩
    exact V_iret C X d_X9_row_52 (Nat.zero_le _) (Nat.zero_le _) ⟨by rw [rowM, hB, hf]; exact hR, by rw [rowC, hB, hf]; rfl, fun _ q => absurd (hf.symm.trans q) (by decide)⟩
  have hf : fulB n 1 = false := bI_0 h47
  have hf2 := fulB_0 hf
  have eM : rowM n M so v q w = bgnM (n + 1) (rowA n M so v q w) (n + 1) := by rw [rowM, hB, hf, if_pos rfl, if_neg Bool.false_ne_true]
  have eC : rowC n M v q w = nI (n + 1) := by rw [rowC, hB, hf, if_pos rfl, if_neg Bool.false_ne_true]
  obtain ⟨j, hj1, hj, rfl⟩ := in_of (a := 1) (b := 24) (by omega) t0 (by omega)
  obtain ⟨t, ht1, ht, rfl⟩ := st_of hn hn2 t2
  have ej : (nI j).toNatClampNeg = j := nI_clamp (by omega)
  have ev : (nI t).toNatClampNeg = t := nI_clamp (by omega)
  refine b_X9_row_53.go C ⟨trivial, ?_⟩
  refine k_X9_row_57.go C X (r_made (d + 9) G x ra M n so (nI 0) (nI 0) hR hn (by omega)) (rest := []) rfl rfl rfl (fun _ => ⟨x, 9, _, rfl, hR.1, by decide⟩) (lb rfl) (Rq.of (by omega) (by decide) (Nat.le_refl _) (Nat.le_refl _)) ?_
  rintro r G2 ⟨rfl, R2⟩
  have R1_ := R2.st 7 (n + 1) w (by decide) rfl
  refine b_X9_row_60.go C ⟨_, R2.1, _, _, R2.2.1 7 (by decide) rfl, n + 1, rfl, by show n + 1 < 201; omega, lb rfl, trivial, ?_⟩
  have k0 : kLe (up2 (madeM M n so (nI 0) (nI 0)) 7 (n + 1) w) (n + 1) 0 := (kLe.z (h4 hf2)).of rfl
  refine (show ∀ (q' k : Nat) (G3 : GH) (M3 : MS), k + q' = j → RR G3 x ra M3 → kLe M3 (n + 1) k → rowA n M so (nI t) (nI j) w = rowF (n + 1) t q' k M3 → V p l e (RM (d + 10) 0 0) s m args below meth c Y (GA G s.heap.size) (QM below args s (RM (d + 10) 0 0) Y G (fun r G' => RR G' x ra (rowM n M so (nI t) (nI j) w) ∧ r = some (.inl (rowC n M (nI t) (nI j) w)) ∧ (rowB M (nI t) (nI j) w = true → fulB n 1 = false → JJ I (rowM n M so (nI t) (nI j) w)))) 74 G3 0 0 [some (.inr (.inr (some x))), some (.inl so), some (.inl (nI t)), some (.inl (nI j)), some (.inl w), some (.inl (nI (n + 1))), some (.inl (nI k))] [] from ?_) j 0 _ _ (by omega) R1_ k0 (by rw [rowA, ej, ev])
  intro q'
  induction q' with
  | zero =>
    intro k G3 M3 hk R3 k3 hs
    refine b_X9_row_74.go C ⟨fun h74 => ⟨trivial, ?_⟩, fun h => absurd (nI_le (by omega) (by omega)) h⟩
    refine b_X9_row_96.go C ⟨trivial, ?_⟩
    obtain ⟨hb1, hb2, hb3, hb4, hb5⟩ := hJ hB hf
    have R4 : RR G3 x ra (rowA n M so (nI t) (nI j) w) := by rw [hs]; exact R3
    refine k_X9_row_99.go C X (r_begins d _ x ra _ (n + 1) (n + 1) m3 m4 I hb1 R4 hb2 hb3 hb4 hb5) (rest := []) rfl rfl rfl (fun _ => ⟨x, 9, _, rfl, R4.1, by decide⟩) (lb rfl) (Rq.of (by omega) (by decide) (Nat.le_refl _) (Nat.le_refl _)) ?_
    rintro r G9 ⟨R9, rfl, J9⟩
    exact V_iret C X d_X9_row_102 (Nat.zero_le _) (Nat.zero_le _) ⟨by rw [eM]; exact R9, by rw [eC], fun _ _ => by rw [eM]; exact J9⟩
  | succ q' ih =>
    intro k G3 M3 hk R3 k3 hs
    refine b_X9_row_74.go C ⟨fun h => absurd (show j ≤ k from (nI_leI (by omega) (by omega)).mp h) (by omega), fun h74 => ⟨trivial, ?_⟩⟩
    refine b_X9_row_80.go C ⟨_, nI_add _ _, trivial, ?_⟩
    refine k_X9_row_87.go C X (r_takes (d + 8) G3 x ra M3 (n + 1) (nI (t + k)) R3 (by omega) k3.1 (by have := k3.2; omega)) (rest := []) rfl rfl rfl (fun _ => ⟨x, 9, _, rfl, R3.1, by decide⟩) (lb rfl) (Rq.of (by omega) (by decide) (Nat.le_refl _) (Nat.le_refl _)) ?_
    rintro r G4 ⟨rfl, R4⟩
    refine b_X9_row_90.go C ⟨_, nI_1 _, trivial, ?_⟩
    exact ih (k + 1) G4 _ (by omega) R4 (k3.tak (by omega)) (by rw [hs, rowF])
theorem r_all (d : Nat) (G : GH) (x : Nat) (ra : Nat → Nat) (M : MS) (n : Nat) (v q : Int32) (m3 m4 : Nat → Int32) (I : Nat → MS → Prop) (hR : RR G x ra M) (hn : M 1 0 = nI n) (hn2 : n ≤ 200) (h4 : n + 1 ≤ 200 → M 4 (n + 1) = nI 0) (hJ : rowB M v q (nI 1) = true → fulB n 1 = false → BgP (n + 1) m3 m4 I (rowA n M (nI 4) v q (nI 1)) (n + 1)) : Cd l yX9_all cX9_all 3 (some .int) (d + 11) 0 0 Y [.inr (.inr (some x)), .inl v, .inl q] G (fun r G' => RR G' x ra (rowM n M (nI 4) v q (nI 1)) ∧ r = some (.inl (rowC n M v q (nI 1))) ∧ (rowB M v q (nI 1) = true → fulB n 1 = false → JJ I (rowM n M (nI 4) v q (nI 1)))) := by
  refine Ct.of (ini := False) (by decide +kernel) False.elim rfl (Nat.le_of_ble_eq_true rfl) ?_
  intro p e s m args below meth c C X
  refine b_X9_all_0.go C ⟨trivial, ?_⟩
  refine k_X9_all_5.go C X (r_row d G x ra M n (nI 4) v q (nI 1) m3 m4 I hR hn hn2 h4 hJ) (rest := []) rfl rfl rfl (fun _ => ⟨x, 9, _, rfl, hR.1, by decide⟩) (lb rfl) (Rq.of (by omega) (by decide) (Nat.le_refl _) (Nat.le_refl _)) ?_
  rintro r G9 ⟨R9, rfl, J9⟩
  exact V_iret C X d_X9_all_8 (Nat.zero_le _) (Nat.zero_le _) ⟨R9, rfl, J9⟩
theorem r_any (d : Nat) (G : GH) (x : Nat) (ra : Nat → Nat) (M : MS) (n : Nat) (v q w : Int32) (m3 m4 : Nat → Int32) (I : Nat → MS → Prop) (hR : RR G x ra M) (hn : M 1 0 = nI n) (hn2 : n ≤ 200) (h4 : n + 1 ≤ 200 → M 4 (n + 1) = nI 0) (hJ : rowB M v q w = true → fulB n 1 = false → BgP (n + 1) m3 m4 I (rowA n M (nI 5) v q w) (n + 1)) : Cd l yX9_any cX9_any 4 (some .int) (d + 11) 0 0 Y [.inr (.inr (some x)), .inl v, .inl q, .inl w] G (fun r G' => RR G' x ra (rowM n M (nI 5) v q w) ∧ r = some (.inl (rowC n M v q w)) ∧ (rowB M v q w = true → fulB n 1 = false → JJ I (rowM n M (nI 5) v q w))) := by
  refine Ct.of (ini := False) (by decide +kernel) False.elim rfl (Nat.le_of_ble_eq_true rfl) ?_
  intro p e s m args below meth c C X
  refine b_X9_any_0.go C ⟨trivial, ?_⟩
  refine k_X9_any_5.go C X (r_row d G x ra M n (nI 5) v q w m3 m4 I hR hn hn2 h4 hJ) (rest := []) rfl rfl rfl (fun _ => ⟨x, 9, _, rfl, hR.1, by decide⟩) (lb rfl) (Rq.of (by omega) (by decide) (Nat.le_refl _) (Nat.le_refl _)) ?_
  rintro r G9 ⟨R9, rfl, J9⟩
  exact V_iret C X d_X9_any_8 (Nat.zero_le _) (Nat.zero_le _) ⟨R9, rfl, J9⟩
end REFY
