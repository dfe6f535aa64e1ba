/-! the reference: dues, follow, begins -/
section REFN
variable {l : Launch} {Y : YT}
def dueI (n s : Nat) : Nat → Nat → MS → MS
  | 0, _, M => M
  | q + 1, k, M => dueI n s q (k + 1) (if M 8 (iN M s k) = 0 ∧ srvN M (iN M s k) = 0 then behM n (markM M (iN M s k) (nI 3)) (iN M s k) else M)
/-- has the stage s dues? -/
def dueB (M : MS) (s : Nat) : Bool := decide (M 8 s = nI 3 ∨ ¬ M 13 s = 0)
def dueF (n : Nat) : Nat → MS → MS
  | 0, M => M
  | q + 1, M => if nN M 17 0 < nN M 16 0 then
      (if dueB M (nN M 15 (nN M 17 0 + 1)) = true then dueF n q (dueI n (nN M 15 (nN M 17 0 + 1)) (kI M (nN M 15 (nN M 17 0 + 1))) 0 (up2 M 17 0 (nI (nN M 17 0 + 1))))
       else dueF n q (up2 M 17 0 (nI (nN M 17 0 + 1)))) else M
def dueM (n : Nat) (M : MS) : MS := dueF n 201 M
/-- the invariant by how far dues have come -/
def IPf (n : Nat) (m3 m4 : Nat → Int32) (I : Nat → MS → Prop) : Prop := (∀ dt, IP n m3 m4 (I dt)) ∧ (∀ dt M, I dt M → M 17 0 = nI dt) ∧ (∀ dt e M, I dt M → M 16 0 = nI e → e ≤ 200 → dt < e → I (dt + 1) (up2 M 17 0 (nI (dt + 1))))
set_option maxHeartbeats 2000000 in
theorem r_dues (d : Nat) (G : GH) (x : Nat) (ra : Nat → Nat) (M : MS) (n dt0 : Nat) (m3 m4 : Nat → Int32) (I : Nat → MS → Prop) (hP : IPf n m3 m4 I) (hR : RR G x ra M) (hM : I dt0 M) (hdt0 : dt0 ≤ 200) : Cd l yX9_dues cX9_dues 5 none (d + 7) 0 0 Y [.inr (.inr (some x))] G (fun r G' => r = none ∧ RR G' x ra (dueM n M) ∧ ∃ dt, I dt (dueM n M)) := by
  obtain ⟨hIP, h17, hstep⟩ := hP
  have hn2 : n ≤ 200 := (hIP 0).1
  refine Ct.of (ini := False) (by decide +kernel) False.elim rfl (Nat.le_of_ble_eq_true rfl) ?_
  intro p e s m args below meth c C X
  refine (show ∀ (q dt : Nat) (G1 : GH) (M1 : MS) (o1 o2 o3 o4 : Option AV), 201 ≤ dt + q → dt ≤ 200 → RR G1 x ra M1 → I dt M1 → dueM n M = dueF n q M1 → V p l e _ s m args below meth c Y _ _ 0 G1 0 0 [some (.inr (.inr (some x))), o1, o2, o3, o4] [] from ?_) 201 dt0 G M none none none none (by omega) hdt0 hR hM rfl
  intro q
  induction q with
  | zero =>
    intro dt G1 M1 o1 o2 o3 o4 hq hdt R1 I1 hs
    omega
  | succ q ih =>
    intro dt G1 M1 o1 o2 o3 o4 hq hdt R1 I1 hs
    obtain ⟨hn, hin, -, -, e0, dt', he, he2, hd, hd2, hE⟩ := (hIP dt).2.1 M1 I1
    have hd' := h17 dt M1 I1
    have n17 : nN M1 17 0 = dt := nN_of hd' (by omega)
    have n16 : nN M1 16 0 = e0 := nN_of he (by omega)
    refine b_X9_dues_0.go C ⟨_, R1.1, _, R1.1, fun h1 => ⟨trivial, ?_⟩, fun h1 => ⟨trivial, ?_⟩⟩
    · have h1' : e0 ≤ dt := (nI_leI (by omega) (by omega)).mp (by rw [← he, ← hd']; exact h1)
      exact V_vret C X d_X9_dues_126 (Nat.zero_le _) (Nat.zero_le _) ⟨rfl, by rw [hs, dueF, n17, n16, if_neg (by omega)]; exact ⟨R1, dt, I1⟩⟩
    have h1' : dt < e0 := Nat.lt_of_not_le (fun h => h1 (show M1 16 0 ≤ M1 17 0 by rw [he, hd']; exact nI_le h (by omega)))
    have I2 := hstep dt e0 M1 I1 he he2 h1'
    have R2 := R1.s17 (nI (dt + 1))
    obtain ⟨g1, g2⟩ := hE (dt + 1) (by omega) (by omega)
    obtain ⟨z, ez⟩ : ∃ z, z = nN M1 15 (dt + 1) := ⟨_, rfl⟩
    rw [← ez] at g1 g2
    have hlz : z < 201 := by omega
    have est : dueF n (q + 1) M1 = if dueB M1 z = true then dueF n q (dueI n z (kI M1 z) 0 (up2 M1 17 0 (nI (dt + 1)))) else dueF n q (up2 M1 17 0 (nI (dt + 1))) := by
      rw [dueF, n17, n16, if_pos h1', ← ez]
    have inner : ∀ (w k : Nat) (G2 : GH) (M2 : MS) (o : Option AV), k + w = kI M1 z → RR G2 x ra M2 → I (dt + 1) M2 → dueB M1 z = true → dueI n z (kI M1 z) 0 (up2 M1 17 0 (nI (dt + 1))) = dueI n z w k M2 → V p l e (RM (d + 7) 0 0) s m args below meth c Y (GA G s.heap.size) (QM below args s (RM (d + 7) 0 0) Y G (fun r G' => r = none ∧ RR G' x ra (dueM n M) ∧ ∃ dt, I dt (dueM n M))) 58 G2 0 0 [some (.inr (.inr (some x))), some (.inl (nI z)), some (.inl (bI true)), some (.inl (nI k)), o] [] := by
      intro w
      induction w with
      | zero =>
        intro k G2 M2 o hk R3 I3 hb hs2
        obtain ⟨hn3, hin3, -, m4', -⟩ := (hIP (dt + 1)).2.1 M2 I3
        obtain ⟨-, -, -, m4'', -⟩ := (hIP dt).2.1 M1 I1
        obtain ⟨⟨-, hk3, hk4, -⟩, -⟩ := hin3 z (by omega)
        have ekk : kI M2 z = kI M1 z := by unfold kI; rw [m4', m4'']
        rw [ekk] at hk3
        refine b_X9_dues_58.go C ⟨fun h2 => absurd h2 (by decide +kernel), fun h2 => ⟨trivial, ?_⟩⟩
        refine b_X9_dues_62.go C ⟨_, R3.1, _, _, R3.2.1 4 (by decide) rfl, z, rfl, hlz, lb rfl, _, hk3, fun h3 => ⟨trivial, ?_⟩, fun h3 => absurd (nI_le (by omega) (by omega)) h3⟩
        refine b_X9_dues_123.go C ⟨trivial, ?_⟩
        exact ih (dt + 1) G2 M2 _ _ _ _ (by omega) (by omega) R3 I3 (by rw [hs, est, if_pos hb, hs2, dueI])
      | succ w ihw =>
        intro k G2 M2 o hk R3 I3 hb hs2
        obtain ⟨hn3, hin3, m3', m4', -⟩ := (hIP (dt + 1)).2.1 M2 I3
        obtain ⟨-, -, -, m4'', -⟩ := (hIP dt).2.1 M1 I1
        obtain ⟨⟨hz2, hk3, hk4, hj3⟩, hj4⟩ := hin3 z (by omega)
        have ekk : kI M2 z = kI M1 z := by unfold kI; rw [m4', m4'']
        have hkz : k < kI M2 z := by omega
        obtain ⟨hi, hi1, hi2⟩ := hj3 k hkz
        have hi3 := hj4 k hkz
        rw [ekk] at hk3
        obtain ⟨v, ev⟩ : ∃ v, v = iN M2 z k := ⟨_, rfl⟩
        rw [← ev] at hi hi1 hi2 hi3
        have next : ∀ (G4 : GH) (M4 : MS), RR G4 x ra M4 → I (dt + 1) M4 → M4 = (if M2 8 v = 0 ∧ srvN M2 v = 0 then behM n (markM M2 v (nI 3)) v else M2) → V p l e (RM (d + 7) 0 0) s m args below meth c Y (GA G s.heap.size) (QM below args s (RM (d + 7) 0 0) Y G (fun r G' => r = none ∧ RR G' x ra (dueM n M) ∧ ∃ dt, I dt (dueM n M))) 117 G4 0 0 [some (.inr (.inr (some x))), some (.inl (nI z)), some (.inl (bI true)), some (.inl (nI k)), some (.inl (nI v))] [] := by
          intro G4 M4 R4 I4 e4
          refine b_X9_dues_117.go C ⟨_, nI_1 k, trivial, ?_⟩
          exact ihw (k + 1) G4 M4 _ (by omega) R4 I4 hb (by rw [hs2, dueI, ← ev, e4])
        refine b_X9_dues_58.go C ⟨fun h2 => absurd h2 (by decide +kernel), fun h2 => ⟨trivial, ?_⟩⟩
        refine b_X9_dues_62.go C ⟨_, R3.1, _, _, R3.2.1 4 (by decide) rfl, z, rfl, hlz, lb rfl, _, hk3, fun h3 => absurd ((nI_leI (by omega) (by omega)).mp h3) (by omega), fun h3 => ⟨trivial, ?_⟩⟩
        refine b_X9_dues_72.go C ⟨_, R3.1, _, pk_mul 24 z, _, nI_add _ _, _, _, R3.2.1 3 (by decide) rfl, 24 * z + k, rfl, by show 24 * z + k < 4824; omega, lb rfl, _, hi, _, R3.1, _, _, R3.2.1 8 (by decide) rfl, v, rfl, by show v < 201; omega, lb rfl, _, rfl, fun h4 => ⟨trivial, ?_⟩, fun h4 => ⟨trivial, ?_⟩⟩
        · exact next G2 M2 R3 I3 (by rw [if_neg (fun h => h4 h.1)])
        refine b_X9_dues_95.go C ⟨trivial, ?_⟩
        refine k_X9_dues_98.go C X (r_isServed d G2 x ra M2 v n R3 hn3 hn2 (by omega) (fun y hy => (hin3 y hy).1)) (rest := []) rfl rfl rfl (fun _ => ⟨x, 9, _, rfl, R3.1, by decide⟩) (Nat.zero_le _) (Rq.of (by omega) (by decide) (Nat.le_refl _) (Nat.le_refl _)) ?_
        rintro r G5 ⟨rfl, rfl⟩
        refine b_X9_dues_101.go C ⟨fun h5 => ⟨trivial, ?_⟩, fun h5 => ⟨trivial, ?_⟩⟩
        · exact next _ M2 R3 I3 (by rw [if_neg (fun h => by have := of_decide_eq_true (bI_1 h5); omega)])
        · have h5' : srvN M2 v = 0 := by have := of_decide_eq_false (bI_0 h5); omega
          obtain ⟨mk, I4⟩ := (hIP (dt + 1)).2.2.2 M2 v I3 hi1 (by omega) h4
          refine b_X9_dues_104.go C ⟨trivial, ?_⟩
          refine k_X9_dues_108.go C X (r_mark (d + 5) _ x ra M2 v (nI 3) R3 mk) (rest := []) rfl rfl rfl (fun _ => ⟨x, 9, _, rfl, R3.1, by decide⟩) (Nat.zero_le _) (Rq.of (Nat.le_refl _) (by decide) (Nat.le_refl _) (Nat.le_refl _)) ?_
          rintro r G6 ⟨rfl, R6⟩
          refine b_X9_dues_111.go C ⟨trivial, ?_⟩
          refine k_X9_dues_114.go C X (r_behind d _ x ra _ v n m3 m4 (I (dt + 1)) (hIP (dt + 1)) R6 I4 (by omega)) (rest := []) rfl rfl rfl (fun _ => ⟨x, 9, _, rfl, R6.1, by decide⟩) (Nat.zero_le _) (Rq.of (Nat.le_refl _) (by decide) (Nat.le_refl _) (Nat.le_refl _)) ?_
          rintro r G7 ⟨rfl, R7, I7⟩
          exact next G7 _ R7 I7 (by rw [if_pos ⟨h4, h5'⟩])
    have go : ∀ b : Bool, b = dueB M1 z → V p l e (RM (d + 7) 0 0) s m args below meth c Y (GA G s.heap.size) (QM below args s (RM (d + 7) 0 0) Y G (fun r G' => r = none ∧ RR G' x ra (dueM n M) ∧ ∃ dt, I dt (dueM n M))) 55 (va_up G1 x (some (.inr (9, rfL (up2 M1 17 0 (nI (dt + 1))) ra)))) 0 0 [some (.inr (.inr (some x))), some (.inl (nI z)), o2, o3, o4] [.inl (bI b)] := by
      intro b hb
      refine b_X9_dues_55.go C ⟨trivial, ?_⟩
      cases b with
      | true => exact inner (kI M1 z) 0 _ _ _ (by omega) R2 I2 hb.symm rfl
      | false =>
        refine b_X9_dues_58.go C ⟨fun h2 => ⟨trivial, ?_⟩, fun h2 => absurd nI_0 h2⟩
        refine b_X9_dues_123.go C ⟨trivial, ?_⟩
        exact ih (dt + 1) _ _ _ _ _ _ (by omega) (by omega) R2 I2 (by rw [hs, est, ← hb]; rfl)
    refine b_X9_dues_11.go C ⟨_, R1.1, _, (congrArg (· + nI 1) hd').trans (nI_1 dt), _, R1.1, _, R2.1, _, R2.1, _, _, R2.2.1 15 (by decide) rfl, dt + 1, rfl, by show dt + 1 < 201; omega, lb rfl, _, g1, _, R2.1, _, _, R2.2.1 8 (by decide) rfl, z, rfl, hlz, lb rfl, _, rfl, fun h2 => ⟨trivial, ?_⟩, fun h2 => ⟨trivial, ?_⟩⟩
    · refine b_X9_dues_50.go C ⟨trivial, ?_⟩
      exact go true (decide_eq_true (Or.inl h2)).symm
    · refine b_X9_dues_41.go C ⟨_, R2.1, _, _, R2.2.1 13 (by decide) rfl, z, rfl, hlz, lb rfl, _, rfl, fun h3 => ⟨trivial, ?_⟩, fun h3 => ⟨trivial, ?_⟩⟩
      · refine b_X9_dues_54.go C ⟨trivial, ?_⟩
        exact go false (decide_eq_false (fun h => h.elim h2 (fun y => y h3))).symm
      · refine b_X9_dues_50.go C ⟨trivial, ?_⟩
        exact go true (decide_eq_true (Or.inr h3)).symm
/-- what an end brings about, and dues -/
def folM (n : Nat) (M : MS) (s : Nat) : MS := dueM n (behM n M s)
theorem r_follow (d : Nat) (G : GH) (x : Nat) (ra : Nat → Nat) (M : MS) (u n dt0 : Nat) (m3 m4 : Nat → Int32) (I : Nat → MS → Prop) (hP : IPf n m3 m4 I) (hR : RR G x ra M) (hM : I dt0 M) (hdt0 : dt0 ≤ 200) (hu : u ≤ n) : Cd l yX9_follow cX9_follow 2 none (d + 8) 0 0 Y [.inr (.inr (some x)), .inl (nI u)] G (fun r G' => r = none ∧ RR G' x ra (folM n M u) ∧ ∃ dt, I dt (folM n M u)) := by
  refine Ct.of (ini := False) (by decide +kernel) False.elim rfl (Nat.le_of_ble_eq_true rfl) ?_
  intro p e s m args below meth c C X
  refine b_X9_follow_0.go C ⟨trivial, ?_⟩
  refine k_X9_follow_2.go C X (r_behind (d + 1) _ x ra M u n m3 m4 (I dt0) (hP.1 dt0) hR hM hu) (rest := []) rfl rfl rfl (fun _ => ⟨x, 9, _, rfl, hR.1, by decide⟩) (Nat.zero_le _) (Rq.of (Nat.le_refl _) (by decide) (Nat.le_refl _) (Nat.le_refl _)) ?_
  rintro r G1 ⟨rfl, R1, I1⟩
  refine b_X9_follow_5.go C ⟨trivial, ?_⟩
  refine k_X9_follow_6.go C X (r_dues d _ x ra _ n dt0 m3 m4 I hP R1 I1 hdt0) (rest := []) rfl rfl rfl (fun _ => ⟨x, 9, _, rfl, R1.1, by decide⟩) (Nat.zero_le _) (Rq.of (Nat.le_refl _) (by decide) (Nat.le_refl _) (Nat.le_refl _)) ?_
  rintro r G2 ⟨rfl, R2, I2⟩
  exact V_vret C X d_X9_follow_9 (Nat.zero_le _) (Nat.zero_le _) ⟨rfl, R2, I2⟩
end REFN
