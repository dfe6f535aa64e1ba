/-! the reference: cooks, begins, open, tree, failure -/
section REFW
variable {l : Launch} {Y : YT}
/-- has one of the first k cooks a pile? -/
def ckB (k : Nat) (M : MS) : Bool := anyI (fun c => decide (¬ M 47 c ≤ 0)) k 1 false
def ckF : Nat → Nat → MS → MS
  | 0, _, M => M
  | q + 1, c, M => ckF q (c + 1) (up2 (up2 M 48 c (nI 0)) 49 c (nI 0))
def ckM (k : Nat) (M : MS) (v : Int32) : MS := if nI 1 ≤ v ∧ v ≤ nI 12 then (if ckB k M = true then M else up2 (ckF 12 1 M) 45 0 v) else M
def ckC (k : Nat) (M : MS) (v : Int32) : Int32 := if nI 1 ≤ v ∧ v ≤ nI 12 then (if ckB k M = true then -3 else v) else -1
set_option maxHeartbeats 1000000 in
theorem r_cooks (d : Nat) (G : GH) (x : Nat) (ra : Nat → Nat) (M : MS) (k0 : Nat) (v : Int32) (hR : RR G x ra M) (hk : M 45 0 = nI k0) (hk2 : k0 ≤ 12) : Cd l yX9_cooks cX9_cooks 4 (some .int) (d + 1) 0 0 Y [.inr (.inr (some x)), .inl v] G (fun r G' => RR G' x ra (ckM k0 M v) ∧ r = some (.inl (ckC k0 M v))) := by
  refine Ct.of (ini := False) (by decide +kernel) False.elim rfl (Nat.le_of_ble_eq_true rfl) ?_
  intro p e s m args below meth c C X
  refine b_X9_cooks_0.go C ⟨trivial, ?_⟩
  refine k_X9_cooks_4.go C X (r_in d G v (nI 1) (nI 12)) (rest := []) rfl rfl rfl (fun h => absurd rfl h) (lb rfl) (Rq.of (by omega) (by decide) (Nat.le_refl _) (Nat.le_refl _)) ?_
  rintro r G9 ⟨h9, rfl⟩
  replace h9 := h9.symm
  subst h9
  refine b_X9_cooks_7.go C ⟨fun h7 => ⟨trivial, ?_⟩, fun h7 => ⟨trivial, ?_⟩⟩
  rotate_left
  · have h1 := of_decide_eq_false (bI_0 h7)
    refine b_X9_cooks_10.go C ⟨trivial, ?_⟩
    exact V_iret C X d_X9_cooks_11 (Nat.zero_le _) (Nat.zero_le _) ⟨by rw [ckM, if_neg h1]; exact hR, by rw [ckC, if_neg h1]⟩
  have h1 := of_decide_eq_true (bI_1 h7)
  refine b_X9_cooks_12.go C ⟨trivial, ?_⟩
  refine (show ∀ (q c' : Nat) (a : Bool), c' + q = k0 + 1 → ckB k0 M = anyI (fun c => decide (¬ M 47 c ≤ 0)) q c' a → V p l e (RM (d + 1) 0 0) s m args below meth c Y (GA G s.heap.size) (QM below args s (RM (d + 1) 0 0) Y G (fun r G' => RR G' x ra (ckM k0 M v) ∧ r = some (.inl (ckC k0 M v)))) 16 G 0 0 [some (.inr (.inr (some x))), some (.inl v), some (.inl (bI a)), some (.inl (nI c'))] [] from ?_) k0 1 false (by omega) rfl
  intro q
  induction q with
  | zero =>
    intro c' a hc hs
    refine b_X9_cooks_16.go C ⟨_, hR.1, fun h16 => ⟨trivial, ?_⟩, fun h => absurd (show (M 45 0) < (nI c') by rw [hk]; exact nI_lt (by omega) (by omega)) h⟩
    refine b_X9_cooks_49.go C ⟨fun h49 => ⟨trivial, ?_⟩, fun h49 => ⟨trivial, ?_⟩⟩
    · have h2 : ¬ ckB k0 M = true := by rw [hs, anyI, bI_0 h49]; decide
      refine b_X9_cooks_56.go C ⟨trivial, ?_⟩
      refine (show ∀ (q c' : Nat) (G1 : GH) (M1 : MS), c' + q = 13 → RR G1 x ra M1 → ckF 12 1 M = ckF q c' M1 → V p l e (RM (d + 1) 0 0) s m args below meth c Y (GA G s.heap.size) (QM below args s (RM (d + 1) 0 0) Y G (fun r G' => RR G' x ra (ckM k0 M v) ∧ r = some (.inl (ckC k0 M v)))) 58 G1 0 0 [some (.inr (.inr (some x))), some (.inl v), some (.inl (bI a)), some (.inl (nI c'))] [] from ?_) 12 1 G M (by omega) hR rfl
      intro q
      induction q with
      | zero =>
        intro c' G1 M1 hc R1 hs1
        refine b_X9_cooks_58.go C ⟨fun h58 => ⟨trivial, ?_⟩, fun h => absurd (nI_lt (by omega) (by omega)) h⟩
        have R1_ := R1.s45 v
        refine b_X9_cooks_84.go C ⟨_, R1.1, trivial, ?_⟩
        exact V_iret C X d_X9_cooks_90 (Nat.zero_le _) (Nat.zero_le _) ⟨by rw [ckM, if_pos h1, if_neg h2, hs1, ckF]; exact R1_, by rw [ckC, if_pos h1, if_neg h2]⟩
      | succ q ih =>
        intro c' G1 M1 hc R1 hs1
        refine b_X9_cooks_58.go C ⟨fun h => absurd (show nI 12 < nI c' from h) (nI_nlt (by omega) (by omega)), fun h58 => ⟨trivial, ?_⟩⟩
        have R2_ := R1.st 48 c' (nI 0) (by decide) rfl
        have R3_ := R2_.st 49 c' (nI 0) (by decide) rfl
        refine b_X9_cooks_64.go C ⟨_, R1.1, _, _, R1.2.1 48 (by decide) rfl, c', rfl, by show c' < 13; omega, lb rfl, _, R2_.1, _, _, R2_.2.1 49 (by decide) rfl, c', rfl, by show c' < 13; omega, lb rfl, _, nI_1 _, trivial, ?_⟩
        exact ih (c' + 1) _ _ (by omega) R3_ (by rw [hs1, ckF])
    · have h2 : ckB k0 M = true := by rw [hs, anyI, bI_1 h49]
      refine b_X9_cooks_53.go C ⟨trivial, ?_⟩
      exact V_iret C X d_X9_cooks_55 (Nat.zero_le _) (Nat.zero_le _) ⟨by rw [ckM, if_pos h1, if_pos h2]; exact hR, by rw [ckC, if_pos h1, if_pos h2]⟩
  | succ q ih =>
    intro c' a hc hs
    refine b_X9_cooks_16.go C ⟨_, hR.1, fun h => absurd (show nI k0 < nI c' from (by have h9 : (M 45 0) < (nI c') := h; rw [hk] at h9; exact h9)) (nI_nlt (by omega) (by omega)), fun h16 => ⟨trivial, ?_⟩⟩
    refine b_X9_cooks_24.go C ⟨fun h24 => ⟨trivial, ?_⟩, fun h24 => ⟨trivial, ?_⟩⟩
    · refine b_X9_cooks_37.go C ⟨trivial, ?_⟩
      refine b_X9_cooks_42.go C ⟨_, nI_1 _, trivial, ?_⟩
      exact ih (c' + 1) true (by omega) (by rw [hs, anyI, bI_1 h24]; rfl)
    · refine b_X9_cooks_28.go C ⟨_, hR.1, _, _, hR.2.1 47 (by decide) rfl, c', rfl, by show c' < 13; omega, lb rfl, _, rfl, fun h28 => ⟨trivial, ?_⟩, fun h28 => ⟨trivial, ?_⟩⟩
      · refine b_X9_cooks_41.go C ⟨trivial, ?_⟩
        refine b_X9_cooks_42.go C ⟨_, nI_1 _, trivial, ?_⟩
        exact ih (c' + 1) false (by omega) (by rw [hs, anyI, bI_0 h24, decide_eq_false (fun h => h h28)]; rfl)
      · refine b_X9_cooks_37.go C ⟨trivial, ?_⟩
        refine b_X9_cooks_42.go C ⟨_, nI_1 _, trivial, ?_⟩
        exact ih (c' + 1) true (by omega) (by rw [hs, anyI, bI_0 h24, decide_eq_true h28]; rfl)
/-- a new stage is asked, if one of its inputs has ended -/
def bgnA (M : MS) (t : Nat) : MS := if fstN M t true = 0 then M else askedM M t
def bgnM (n : Nat) (M : MS) (t : Nat) : MS := if bgnA M t 8 t = 0 then bgnA M t else folM n (bgnA M t) t
set_option maxHeartbeats 1000000 in
theorem r_begins (d : Nat) (G : GH) (x : Nat) (ra : Nat → Nat) (M : MS) (t n : Nat) (m3 m4 : Nat → Int32) (I : Nat → MS → Prop) (hP : FP n m3 m4 I) (hR : RR G x ra M) (hin : inOk M t) (ht : t ≤ n) (hA : ¬ fstN M t true = 0 → askP M t) (hJ : JJ I (bgnA M t)) : Cd l yX9_begins cX9_begins 2 (some .int) (d + 9) 0 0 Y [.inr (.inr (some x)), .inl (nI t)] G (fun r G' => RR G' x ra (bgnM n M t) ∧ r = some (.inl (nI t)) ∧ JJ I (bgnM n M t)) := by
  refine Ct.of (ini := False) (by decide +kernel) False.elim rfl (Nat.le_of_ble_eq_true rfl) ?_
  intro p e s m args below meth c C X
  have ht2 := hin.1
  have hfl : fstN M t true ≤ 200 := fstF_le hin _ _ _ (by omega) (by omega)
  have go : ∀ (G1 : GH), RR G1 x ra (bgnA M t) → V p l e (RM (d + 9) 0 0) s m args below meth c Y (GA G s.heap.size) (QM below args s (RM (d + 9) 0 0) Y G (fun r G' => RR G' x ra (bgnM n M t) ∧ r = some (.inl (nI t)) ∧ JJ I (bgnM n M t))) 14 G1 0 0 [some (.inr (.inr (some x))), some (.inl (nI t))] [] := by
    intro G1 R1
    refine b_X9_begins_14.go C ⟨_, R1.1, _, _, R1.2.1 8 (by decide) rfl, t, rfl, by show t < 201; omega, lb rfl, _, rfl, fun h14 => ⟨trivial, ?_⟩, fun h14 => ⟨trivial, ?_⟩⟩
    · refine b_X9_begins_28.go C ⟨trivial, ?_⟩
      exact V_iret C X d_X9_begins_29 (Nat.zero_le _) (Nat.zero_le _) ⟨by rw [bgnM, if_pos h14]; exact R1, rfl, by rw [bgnM, if_pos h14]; exact hJ⟩
    · refine b_X9_begins_23.go C ⟨trivial, ?_⟩
      refine k_X9_begins_25.go C X (r_followJ d G1 x ra _ t n m3 m4 I hP R1 hJ ht) (rest := []) rfl rfl rfl (fun _ => ⟨x, 9, _, rfl, R1.1, by decide⟩) (lb rfl) (Rq.of (by omega) (by decide) (Nat.le_refl _) (Nat.le_refl _)) ?_
      rintro r G2 ⟨rfl, R2, J2⟩
      refine b_X9_begins_28.go C ⟨trivial, ?_⟩
      exact V_iret C X d_X9_begins_29 (Nat.zero_le _) (Nat.zero_le _) ⟨by rw [bgnM, if_neg h14]; exact R2, rfl, by rw [bgnM, if_neg h14]; exact J2⟩
  refine b_X9_begins_0.go C ⟨trivial, ?_⟩
  refine k_X9_begins_3.go C X (r_firstOf (d + 8) G x ra M t true hR hin) (rest := []) rfl rfl rfl (fun _ => ⟨x, 9, _, rfl, hR.1, by decide⟩) (lb rfl) (Rq.of (by omega) (by decide) (Nat.le_refl _) (Nat.le_refl _)) ?_
  rintro r G9 ⟨h9, rfl⟩
  replace h9 := h9.symm
  subst h9
  refine b_X9_begins_6.go C ⟨fun h6 => ⟨trivial, ?_⟩, fun h6 => ⟨trivial, ?_⟩⟩
  · have h6a : fstN M t true = 0 := (nI_eq (by omega) (by omega)).mp (by have h9 : (nI (fstN M t true) = 0) := h6; rw [nI_0.symm] at h9; exact h9)
    exact go G (by rw [bgnA, if_pos h6a]; exact hR)
  · have h6a : ¬ fstN M t true = 0 := fun q9 => absurd (congrArg nI q9) (by have h9 : ¬ (nI (fstN M t true) = 0) := h6; rw [nI_0.symm] at h9; exact h9)
    refine b_X9_begins_9.go C ⟨trivial, ?_⟩
    refine k_X9_begins_11.go C X (r_asked (d + 3) G x ra M t hR (hA h6a)) (rest := []) rfl rfl rfl (fun _ => ⟨x, 9, _, rfl, hR.1, by decide⟩) (lb rfl) (Rq.of (by omega) (by decide) (Nat.le_refl _) (Nat.le_refl _)) ?_
    rintro r G2 ⟨rfl, R2⟩
    exact go G2 (by rw [bgnA, if_neg h6a]; exact R2)
def opnM (M : MS) (o : Nat) (f up ro : Int32) : MS := up2 (up2 (up2 (up2 M 61 o f) 62 o up) 63 o ro) 64 0 (nI (o + 1))
theorem r_open (d : Nat) (G : GH) (x : Nat) (ra : Nat → Nat) (M : MS) (o : Nat) (f up ro : Int32) (hR : RR G x ra M) (ho : M 64 0 = nI o) (ho2 : o < 12000) : Cd l yX9_open cX9_open 4 none d 0 0 Y [.inr (.inr (some x)), .inl f, .inl up, .inl ro] G (fun r G' => r = none ∧ RR G' x ra (opnM M o f up ro)) := by
  refine Ct.of (ini := False) (by decide +kernel) False.elim rfl (Nat.le_of_ble_eq_true rfl) ?_
  intro p e s m args below meth c C X
  have R1_ := hR.st 61 o f (by decide) rfl
  have R2_ := R1_.st 62 o up (by decide) rfl
  have R3_ := R2_.st 63 o ro (by decide) rfl
  have R4_ := R3_.s64 (nI (o + 1))
  refine b_X9_open_0.go C ⟨_, hR.1, _, hR.1, _, _, hR.2.1 61 (by decide) rfl, o, ho, by show o < 12000; omega, lb rfl, _, R1_.1, _, R1_.1, _, _, R1_.2.1 62 (by decide) rfl, o, ho, by show o < 12000; omega, lb rfl, _, R2_.1, _, R2_.1, _, _, R2_.2.1 63 (by decide) rfl, o, ho, by show o < 12000; omega, lb rfl, _, R3_.1, _, (congrArg (· + nI 1) ho).trans (nI_add _ _), _, R3_.1, trivial, ?_⟩
  exact V_vret C X d_X9_open_40 (Nat.zero_le _) (Nat.zero_le _) ⟨rfl, R4_⟩
end REFW
