/-! the reference: plan, take -/
section REFS
variable {l : Launch} {Y : YT}
/-- the row that a plan gets -/
def plnR (M : MS) (u v : Int32) : Nat := if plnM M u v = -1 then nN M 44 0 else (plnM M u v).toNatClampNeg
def planC (M : MS) (u v w : Int32) : Int32 := if isWB M u = true ∧ (nI 1 ≤ v ∧ v ≤ nI 6) ∧ (nI 0 ≤ w ∧ w ≤ nI 15) then (if plnM M u v = -1 ∧ M 44 0 = nI 64 then -2 else (if plnR M u v = nN M 44 0 then nI (nN M 44 0 + 1) else M 44 0)) else -1
def planM (M : MS) (u v w : Int32) : MS := if isWB M u = true ∧ (nI 1 ≤ v ∧ v ≤ nI 6) ∧ (nI 0 ≤ w ∧ w ≤ nI 15) then (if plnM M u v = -1 ∧ M 44 0 = nI 64 then M else up2 (up2 (up2 (up2 M 44 0 (if plnR M u v = nN M 44 0 then nI (nN M 44 0 + 1) else M 44 0)) 41 (plnR M u v) u) 42 (plnR M u v) v) 43 (plnR M u v) w) else M
theorem r_plan (d : Nat) (G : GH) (x : Nat) (ra : Nat → Nat) (M : MS) (n q0 : Nat) (u v w : Int32) (hR : RR G x ra M) (hn : M 1 0 = nI n) (hn2 : n ≤ 200) (hq : M 44 0 = nI q0) (hq2 : q0 ≤ 64) : Cd l yX9_plan cX9_plan 5 (some .int) (d + 3) 0 0 Y [.inr (.inr (some x)), .inl u, .inl v, .inl w] G (fun r G' => RR G' x ra (planM M u v w) ∧ r = some (.inl (planC M u v w))) := by
  refine Ct.of (ini := False) (by decide +kernel) False.elim rfl (Nat.le_of_ble_eq_true rfl) ?_
  intro p e s m args below meth c C X
  have eq : nN M 44 0 = q0 := nN_of hq (by omega)
  have bad : ¬ (isWB M u = true ∧ (nI 1 ≤ v ∧ v ≤ nI 6) ∧ (nI 0 ≤ w ∧ w ≤ nI 15)) → V p l e (RM (d + 3) 0 0) s m args below meth c Y (GA G s.heap.size) (QM below args s (RM (d + 3) 0 0) Y G (fun r G' => RR G' x ra (planM M u v w) ∧ r = some (.inl (planC M u v w)))) 28 G 0 0 [some (.inr (.inr (some x))), some (.inl u), some (.inl v), some (.inl w), none] [] := by
    intro hb
    refine b_X9_plan_28.go C ⟨trivial, ?_⟩
    exact V_iret C X d_X9_plan_29 (Nat.zero_le _) (Nat.zero_le _) ⟨by rw [planM, if_neg hb]; exact hR, by rw [planC, if_neg hb]⟩
  refine b_X9_plan_0.go C ⟨trivial, ?_⟩
  refine k_X9_plan_2.go C X (r_isWork d G x ra M n u hR hn hn2) (rest := []) rfl rfl rfl (fun _ => ⟨x, 9, _, rfl, hR.1, by decide⟩) (lb rfl) (Rq.of (by omega) (by decide) (Nat.le_refl _) (Nat.le_refl _)) ?_
  rintro r G9 ⟨h9, rfl⟩
  replace h9 := h9.symm
  subst h9
  refine b_X9_plan_5.go C ⟨fun h5 => ⟨trivial, ?_⟩, fun h5 => ⟨trivial, ?_⟩⟩
  · exact bad (fun h => by rw [bI_0 (b := isWB M u) h5] at h; cases h.1)
  refine b_X9_plan_8.go C ⟨trivial, ?_⟩
  refine k_X9_plan_12.go C X (r_in d G v (nI 1) (nI 6)) (rest := []) rfl rfl rfl (fun h => absurd rfl h) (lb rfl) (Rq.of (by omega) (by decide) (Nat.le_refl _) (Nat.le_refl _)) ?_
  rintro r G9 ⟨h9, rfl⟩
  replace h9 := h9.symm
  subst h9
  refine b_X9_plan_15.go C ⟨fun h15 => ⟨trivial, ?_⟩, fun h15 => ⟨trivial, ?_⟩⟩
  · exact bad (fun h => of_decide_eq_false (bI_0 h15) h.2.1)
  refine b_X9_plan_18.go C ⟨trivial, ?_⟩
  refine k_X9_plan_22.go C X (r_in d G w (nI 0) (nI 15)) (rest := []) rfl rfl rfl (fun h => absurd rfl h) (lb rfl) (Rq.of (by omega) (by decide) (Nat.le_refl _) (Nat.le_refl _)) ?_
  rintro r G9 ⟨h9, rfl⟩
  replace h9 := h9.symm
  subst h9
  refine b_X9_plan_25.go C ⟨fun h25 => ⟨trivial, ?_⟩, fun h25 => ⟨trivial, ?_⟩⟩
  rotate_left
  · exact bad (fun h => of_decide_eq_false (bI_0 h25) h.2.2)
  have ok : isWB M u = true ∧ (nI 1 ≤ v ∧ v ≤ nI 6) ∧ (nI 0 ≤ w ∧ w ≤ nI 15) := ⟨bI_1 h5, of_decide_eq_true (bI_1 h15), of_decide_eq_true (bI_1 h25)⟩
  have hpl := plnF_or M u v (nN M 44 0) 0 (-1)
  have hne : ∀ j : Nat, j < 64 → ¬ nI j = -1 := fun j hj h => absurd (Int32.lt_of_le_of_lt (nI_le (Nat.zero_le j) (by omega)) (show nI j < nI 0 by rw [h]; decide +kernel)) (by decide +kernel)
  have last : ∀ (p0 : Nat) (z : Int32), ¬ (plnM M u v = -1 ∧ M 44 0 = nI 64) → p0 < 64 → p0 = plnR M u v → z = (if plnR M u v = nN M 44 0 then nI (nN M 44 0 + 1) else M 44 0) → V p l e (RM (d + 3) 0 0) s m args below meth c Y (GA G s.heap.size) (QM below args s (RM (d + 3) 0 0) Y G (fun r G' => RR G' x ra (planM M u v w) ∧ r = some (.inl (planC M u v w)))) 96 G 0 0 [some (.inr (.inr (some x))), some (.inl u), some (.inl v), some (.inl w), some (.inl (nI p0))] [.inl z, .inr (.inr (some x))] := by
    intro p0 z hb hp0 hp1 hz
    have R1_ := hR.s44 z
    have R2_ := R1_.st 41 p0 u (by decide) rfl
    have R3_ := R2_.st 42 p0 v (by decide) rfl
    have R4_ := R3_.st 43 p0 w (by decide) rfl
    refine b_X9_plan_96.go C ⟨_, hR.1, _, R1_.1, _, _, R1_.2.1 41 (by decide) rfl, p0, rfl, by show p0 < 64; omega, lb rfl, _, R2_.1, _, _, R2_.2.1 42 (by decide) rfl, p0, rfl, by show p0 < 64; omega, lb rfl, _, R3_.1, _, _, R3_.2.1 43 (by decide) rfl, p0, rfl, by show p0 < 64; omega, lb rfl, _, R4_.1, trivial, ?_⟩
    exact V_iret C X d_X9_plan_127 (Nat.zero_le _) (Nat.zero_le _) ⟨by rw [planM, if_pos ok, if_neg hb, ← hz, ← hp1]; exact R4_, by rw [planC, if_pos ok, if_neg hb, ← hz]; rfl⟩
  have mid : ∀ p0 : Nat, ¬ (plnM M u v = -1 ∧ M 44 0 = nI 64) → p0 < 64 → p0 = plnR M u v → V p l e (RM (d + 3) 0 0) s m args below meth c Y (GA G s.heap.size) (QM below args s (RM (d + 3) 0 0) Y G (fun r G' => RR G' x ra (planM M u v w) ∧ r = some (.inl (planC M u v w)))) 71 G 0 0 [some (.inr (.inr (some x))), some (.inl u), some (.inl v), some (.inl w), some (.inl ((plnM M u v)))] [.inl (nI p0)] := by
    intro p0 hb hp0 hp1
    refine b_X9_plan_71.go C ⟨_, hR.1, fun h71 => ⟨trivial, ?_⟩, fun h71 => ⟨trivial, ?_⟩⟩
    · have hk : ¬ p0 = q0 := fun q9 => absurd (congrArg nI q9) (by have h9 : ¬ (nI p0 = M 44 0) := h71; rw [hq] at h9; exact h9)
      refine b_X9_plan_92.go C ⟨_, hR.1, trivial, ?_⟩
      exact last p0 _ hb hp0 hp1 (by rw [← hp1, eq, if_neg hk])
    · have hk : p0 = q0 := (nI_eq (by omega) (by omega)).mp (by have h9 : (nI p0 = M 44 0) := h71; rw [hq] at h9; exact h9)
      refine b_X9_plan_83.go C ⟨_, hR.1, _, (congrArg (· + nI 1) hq).trans (nI_add _ _), trivial, ?_⟩
      exact last p0 _ hb hp0 hp1 (by rw [← hp1, eq, if_pos hk])
  refine b_X9_plan_30.go C ⟨trivial, ?_⟩
  refine k_X9_plan_33.go C X (r_planned 0 G x ra M u v q0 hR hq hq2) (rest := []) rfl rfl rfl (fun _ => ⟨x, 9, _, rfl, hR.1, by decide⟩) (lb rfl) (Rq.of (by omega) (by decide) (Nat.le_refl _) (Nat.le_refl _)) ?_
  rintro r G9 ⟨h9, rfl⟩
  replace h9 := h9.symm
  subst h9
  have go : ¬ (plnM M u v = -1 ∧ M 44 0 = nI 64) → V p l e (RM (d + 3) 0 0) s m args below meth c Y (GA G s.heap.size) (QM below args s (RM (d + 3) 0 0) Y G (fun r G' => RR G' x ra (planM M u v w) ∧ r = some (.inl (planC M u v w)))) 56 G 0 0 [some (.inr (.inr (some x))), some (.inl u), some (.inl v), some (.inl w), some (.inl ((plnM M u v)))] [] := by
    intro hb
    by_cases hm : plnM M u v = -1
    · refine b_X9_plan_56.go C ⟨fun h => absurd hm h, fun h56 => ⟨trivial, ?_⟩⟩
      refine b_X9_plan_62.go C ⟨_, hR.1, trivial, ?_⟩
      rw [hq]
      refine mid q0 hb (Nat.lt_of_le_of_ne hq2 (fun h => hb ⟨hm, by rw [hq, h]⟩)) (by rw [plnR, if_pos hm, eq])
    · refine b_X9_plan_56.go C ⟨fun h56 => ⟨trivial, ?_⟩, fun h => absurd h hm⟩
      obtain h | ⟨j, hj1, hj2, hj⟩ := hpl
      · exact absurd h hm
      have hj' : plnM M u v = nI j := hj
      refine b_X9_plan_69.go C ⟨trivial, ?_⟩
      rw [eq] at hj2
      have e7 : V p l e (RM (d + 3) 0 0) s m args below meth c Y (GA G s.heap.size) (QM below args s (RM (d + 3) 0 0) Y G (fun r G' => RR G' x ra (planM M u v w) ∧ r = some (.inl (planC M u v w)))) 71 G 0 0 [some (.inr (.inr (some x))), some (.inl u), some (.inl v), some (.inl w), some (.inl ((plnM M u v)))] [.inl (nI j)] := mid j hb (by omega) (by rw [plnR, if_neg hm, hj', nI_clamp (by omega)])
      rw [← hj'] at e7
      exact e7
  refine b_X9_plan_36.go C ⟨fun h36 => ⟨trivial, ?_⟩, fun h36 => ⟨trivial, ?_⟩⟩
  · exact go (fun h => h36 h.1)
  refine b_X9_plan_44.go C ⟨_, hR.1, fun h44 => ⟨trivial, ?_⟩, fun h44 => ⟨trivial, ?_⟩⟩
  · exact go (fun h => h44 h.2)
  · refine b_X9_plan_53.go C ⟨trivial, ?_⟩
    exact V_iret C X d_X9_plan_55 (Nat.zero_le _) (Nat.zero_le _) ⟨by rw [planM, if_pos ok, if_pos ⟨h36, h44⟩]; exact hR, by rw [planC, if_pos ok, if_pos ⟨h36, h44⟩]⟩
/-- may the work t be taken (by a cook who waits for u, if u is not 0)? -/
def mayB (M : MS) (u t : Nat) : Bool := decide (nI 9 ≤ M 2 t ∧ M 8 t = 0 ∧ M 19 t = nI 1 ∧ (u = 0 ∨ ¬ M 56 t = 0))
def bstF (M : MS) (u : Nat) : Nat → Nat → Nat → Nat
  | 0, _, b => b
  | q + 1, t, b => bstF M u q (t + 1) (if mayB M u t = true ∧ (b = 0 ∨ M 20 t ≤ M 20 b) then t else b)
def bstN (n : Nat) (M : MS) (u : Nat) : Nat := bstF M u n 1 0
theorem bstF_or (M : MS) (u : Nat) : ∀ (q t b : Nat), bstF M u q t b = b ∨ (t ≤ bstF M u q t b ∧ bstF M u q t b < t + q ∧ mayB M u (bstF M u q t b) = true)
  | 0, _, _ => Or.inl rfl
  | q + 1, t, b => by
    rw [bstF]
    rcases bstF_or M u q (t + 1) (if mayB M u t = true ∧ (b = 0 ∨ M 20 t ≤ M 20 b) then t else b) with h | ⟨h1, h2, h3⟩
    · by_cases hc : mayB M u t = true ∧ (b = 0 ∨ M 20 t ≤ M 20 b)
      · rw [if_pos hc] at h ⊢
        exact Or.inr ⟨by omega, by omega, by rw [h]; exact hc.1⟩
      · rw [if_neg hc] at h ⊢
        exact Or.inl h
    · exact Or.inr ⟨by omega, by omega, h3⟩
def tkH (n : Nat) (M : MS) (u : Nat) : MS := if u = 0 then M else hangM n M u
theorem tkH_o {n : Nat} {M : MS} {u f : Nat} (hf : f ≠ 56) : tkH n M u f = M f := by
  unfold tkH
  split
  · rfl
  · exact hangM_o n M u f hf
/-- cook c takes the work b -/
def tkA (M : MS) (c b : Nat) : MS :=
  noteM (up2 (up2 (up2 (up2 (up2 (up2 (up2 (up2 M 46 (201 * c + nN M 47 c) (nI b)) 47 c (nI (nN M 47 c + 1))) 19 b (nI 2)) 25 b (nI c)) 21 b (M 21 b + nI 1)) 22 b (M 0 0)) 24 b (if M 2 b = nI 11 then nI 1 else nI 0)) 23 b (M 0 0 + (if M 2 b = nI 11 then M 18 b / nI 2 else M 18 b))) (nN M 53 0) (nI b) (nI 1)
def tkeM (n : Nat) (M : MS) (c u : Nat) : MS := if bstN n (tkH n M u) u = 0 then tkH n M u else tkA (tkH n M u) c (bstN n (tkH n M u) u)
set_option maxHeartbeats 1000000 in
theorem r_take (d : Nat) (G : GH) (x : Nat) (ra : Nat → Nat) (M : MS) (n c0 u q0 g : Nat) (hR : RR G x ra M) (hn : M 1 0 = nI n) (hn2 : n ≤ 200) (hc : c0 ≤ 12) (hu : u ≤ n) (hq : M 47 c0 = nI q0) (hq2 : q0 ≤ 200) (hg : M 53 0 = nI g) (hg2 : g < 4000) (hI : ∀ t, t ≤ n → inOk M t ∧ ∀ j, j < kI M t → iN M t j < t) : Cd l yX9_take cX9_take 6 (some .boolean) (d + 1) 0 0 Y [.inr (.inr (some x)), .inl (nI c0), .inl (nI u)] G (fun r G' => RR G' x ra (tkeM n M c0 u) ∧ r = some (.inl (bI (decide (¬ bstN n (tkH n M u) u = 0))))) := by
  refine Ct.of (ini := False) (by decide +kernel) False.elim rfl (Nat.le_of_ble_eq_true rfl) ?_
  intro p e s m args below meth c C X
  have main : ∀ G1, RR G1 x ra (tkH n M u) → V p l e (RM (d + 1) 0 0) s m args below meth c Y (GA G s.heap.size) (QM below args s (RM (d + 1) 0 0) Y G (fun r G' => RR G' x ra (tkeM n M c0 u) ∧ r = some (.inl (bI (decide (¬ bstN n (tkH n M u) u = 0)))))) 9 G1 0 0 [some (.inr (.inr (some x))), some (.inl (nI c0)), some (.inl (nI u)), none, none, none] [] := by
    intro G1 R1
    obtain ⟨M1, hM1⟩ : ∃ M1, M1 = tkH n M u := ⟨_, rfl⟩
    have ho : ∀ f, f ≠ 56 → M1 f = M f := fun f hf => by rw [hM1]; exact tkH_o hf
    rw [← hM1] at R1
    have hn' : M1 1 0 = nI n := by rw [ho 1 (by decide)]; exact hn
    have hq' : M1 47 c0 = nI q0 := by rw [ho 47 (by decide)]; exact hq
    have hg' : M1 53 0 = nI g := by rw [ho 53 (by decide)]; exact hg
    have eq : nN M1 47 c0 = q0 := nN_of hq' (by omega)
    have eg : nN M1 53 0 = g := nN_of hg' (by omega)
    have done : ∀ (b : Nat) (o4 o5 : Option AV), b ≤ n → bstN n M1 u = b → V p l e (RM (d + 1) 0 0) s m args below meth c Y (GA G s.heap.size) (QM below args s (RM (d + 1) 0 0) Y G (fun r G' => RR G' x ra (tkeM n M c0 u) ∧ r = some (.inl (bI (decide (¬ bstN n (tkH n M u) u = 0)))))) 115 G1 0 0 [some (.inr (.inr (some x))), some (.inl (nI c0)), some (.inl (nI u)), some (.inl (nI b)), o4, o5] [] := by
      intro b o4 o5 hb hs
      refine b_X9_take_115.go C ⟨fun h115 => ⟨trivial, ?_⟩, fun h115 => ⟨trivial, ?_⟩⟩
      rotate_left
      · have h0 : b = 0 := (nI_eq (by omega) (by omega)).mp (by have h9 : (nI b = 0) := h115; rw [nI_0.symm] at h9; exact h9)
        refine b_X9_take_119.go C ⟨trivial, ?_⟩
        exact V_zret C X d_X9_take_120 z0 (Nat.zero_le _) (Nat.zero_le _) ⟨by rw [tkeM, ← hM1, hs, if_pos h0]; exact R1, by rw [← hM1, hs, h0]; rfl⟩
      have h0 : ¬ b = 0 := fun q9 => absurd (congrArg nI q9) (by have h9 : ¬ (nI b = 0) := h115; rw [nI_0.symm] at h9; exact h9)
      have R1_ := R1.st 46 (201 * c0 + q0) (nI b) (by decide) rfl
      have R2_ := R1_.st 47 c0 (nI (q0 + 1)) (by decide) rfl
      refine b_X9_take_121.go C ⟨_, R1.1, _, pk_mul _ _, _, R1.1, _, _, R1.2.1 47 (by decide) rfl, c0, rfl, by show c0 < 13; omega, lb rfl, _, hq', _, nI_add _ _, _, _, R1.2.1 46 (by decide) rfl, 201 * c0 + q0, rfl, by show 201 * c0 + q0 < 2613; omega, lb rfl, _, R1_.1, _, _, R1_.2.1 47 (by decide) rfl, c0, rfl, by show c0 < 13; omega, lb rfl, _, hq', _, nI_add _ _, _, _, R1_.2.1 47 (by decide) rfl, c0, rfl, by show c0 < 13; omega, lb rfl, _, R2_.1, trivial, ?_⟩
      have R3_ := R2_.st 19 b (nI 2) (by decide) rfl
      have R4_ := R3_.st 25 b (nI c0) (by decide) rfl
      have R5_ := R4_.st 21 b ((M1 21 b) + (nI 1)) (by decide) rfl
      have R6_ := R5_.st 22 b (M1 0 0) (by decide) rfl
      refine b_X9_take_155.go C ⟨_, _, R2_.2.1 19 (by decide) rfl, b, rfl, by show b < 201; omega, lb rfl, _, R3_.1, _, _, R3_.2.1 25 (by decide) rfl, b, rfl, by show b < 201; omega, lb rfl, _, R4_.1, _, _, R4_.2.1 21 (by decide) rfl, b, rfl, by show b < 201; omega, lb rfl, _, rfl, _, rfl, _, _, R4_.2.1 21 (by decide) rfl, b, rfl, by show b < 201; omega, lb rfl, _, R5_.1, _, R5_.1, _, _, R5_.2.1 22 (by decide) rfl, b, rfl, by show b < 201; omega, lb rfl, _, R6_.1, trivial, ?_⟩
      have fin : ∀ (z w : Int32), z = (if M1 2 b = nI 11 then nI 1 else nI 0) → w = (if M1 2 b = nI 11 then M1 18 b / nI 2 else M1 18 b) → True := fun _ _ _ _ => trivial
      by_cases hs9 : M1 2 b = nI 11
      · refine b_X9_take_189.go C ⟨_, R6_.1, _, _, R6_.2.1 2 (by decide) rfl, b, rfl, by show b < 201; omega, lb rfl, _, rfl, fun h => absurd hs9 h, fun h189 => ⟨trivial, ?_⟩⟩
        refine b_X9_take_199.go C ⟨trivial, ?_⟩
        have R7_ := R6_.st 24 b (nI 1) (by decide) rfl
        refine b_X9_take_204.go C ⟨_, _, R6_.2.1 24 (by decide) rfl, b, rfl, by show b < 201; omega, lb rfl, _, R7_.1, _, R7_.1, _, R7_.1, _, _, R7_.2.1 2 (by decide) rfl, b, rfl, by show b < 201; omega, lb rfl, _, rfl, fun h => absurd hs9 h, fun h204 => ⟨trivial, ?_⟩⟩
        refine b_X9_take_225.go C ⟨_, R7_.1, _, _, R7_.2.1 18 (by decide) rfl, b, rfl, by show b < 201; omega, lb rfl, _, rfl, by decide +kernel, _, rfl, trivial, ?_⟩
        have R8_ := R7_.st 23 b ((M1 0 0) + ((M1 18 b) / (nI 2))) (by decide) rfl
        refine b_X9_take_242.go C ⟨_, rfl, _, _, R7_.2.1 23 (by decide) rfl, b, rfl, by show b < 201; omega, lb rfl, trivial, ?_⟩
        refine k_X9_take_247.go C X (r_note d _ x ra _ g (nI b) (nI 1) R8_ hg' hg2) (rest := []) rfl rfl rfl (fun _ => ⟨x, 9, _, rfl, R8_.1, by decide⟩) (lb rfl) (Rq.of (by omega) (by decide) (Nat.le_refl _) (Nat.le_refl _)) ?_
        rintro r G9 ⟨rfl, R9⟩
        refine b_X9_take_250.go C ⟨trivial, ?_⟩
        refine V_zret C X d_X9_take_251 z1 (Nat.zero_le _) (Nat.zero_le _) ⟨?_, by rw [← hM1, hs, decide_eq_true h0]; rfl⟩
        rw [tkeM, ← hM1, hs, if_neg h0, tkA, eq, eg, if_pos hs9, if_pos hs9]
        exact R9
      · refine b_X9_take_189.go C ⟨_, R6_.1, _, _, R6_.2.1 2 (by decide) rfl, b, rfl, by show b < 201; omega, lb rfl, _, rfl, fun h189 => ⟨trivial, ?_⟩, fun h => absurd h hs9⟩
        refine b_X9_take_203.go C ⟨trivial, ?_⟩
        have R9_ := R6_.st 24 b (nI 0) (by decide) rfl
        refine b_X9_take_204.go C ⟨_, _, R6_.2.1 24 (by decide) rfl, b, rfl, by show b < 201; omega, lb rfl, _, R9_.1, _, R9_.1, _, R9_.1, _, _, R9_.2.1 2 (by decide) rfl, b, rfl, by show b < 201; omega, lb rfl, _, rfl, fun h204 => ⟨trivial, ?_⟩, fun h => absurd h hs9⟩
        refine b_X9_take_236.go C ⟨_, R9_.1, _, _, R9_.2.1 18 (by decide) rfl, b, rfl, by show b < 201; omega, lb rfl, _, rfl, trivial, ?_⟩
        have R10_ := R9_.st 23 b ((M1 0 0) + (M1 18 b)) (by decide) rfl
        refine b_X9_take_242.go C ⟨_, rfl, _, _, R9_.2.1 23 (by decide) rfl, b, rfl, by show b < 201; omega, lb rfl, trivial, ?_⟩
        refine k_X9_take_247.go C X (r_note d _ x ra _ g (nI b) (nI 1) R10_ hg' hg2) (rest := []) rfl rfl rfl (fun _ => ⟨x, 9, _, rfl, R10_.1, by decide⟩) (lb rfl) (Rq.of (by omega) (by decide) (Nat.le_refl _) (Nat.le_refl _)) ?_
        rintro r G9 ⟨rfl, R9⟩
        refine b_X9_take_250.go C ⟨trivial, ?_⟩
        refine V_zret C X d_X9_take_251 z1 (Nat.zero_le _) (Nat.zero_le _) ⟨?_, by rw [← hM1, hs, decide_eq_true h0]; rfl⟩
        rw [tkeM, ← hM1, hs, if_neg h0, tkA, eq, eg, if_neg hs9, if_neg hs9]
        exact R9
    refine b_X9_take_9.go C ⟨trivial, ?_⟩
    refine (show ∀ (q t b : Nat) (o5 : Option AV), t + q = n + 1 → b ≤ n → 1 ≤ t → bstN n M1 u = bstF M1 u q t b → V p l e (RM (d + 1) 0 0) s m args below meth c Y (GA G s.heap.size) (QM below args s (RM (d + 1) 0 0) Y G (fun r G' => RR G' x ra (tkeM n M c0 u) ∧ r = some (.inl (bI (decide (¬ bstN n (tkH n M u) u = 0)))))) 14 G1 0 0 [some (.inr (.inr (some x))), some (.inl (nI c0)), some (.inl (nI u)), some (.inl (nI b)), some (.inl (nI t)), o5] [] from ?_) n 1 0 none (by omega) (by omega) (by omega) rfl
    intro q
    induction q with
    | zero =>
      intro t b o5 ht hb ht1 hs
      refine b_X9_take_14.go C ⟨_, R1.1, fun h14 => ⟨trivial, ?_⟩, fun h => absurd (show (M1 1 0) < (nI t) by rw [hn']; exact nI_lt (by omega) (by omega)) h⟩
      exact done b _ _ hb (by rw [hs, bstF])
    | succ q ih =>
      intro t b o5 ht hb ht1 hs
      have nx : ∀ (b' : Nat) (y : Int32), b' ≤ n → b' = (if mayB M1 u t = true ∧ (b = 0 ∨ M1 20 t ≤ M1 20 b) then t else b) → V p l e (RM (d + 1) 0 0) s m args below meth c Y (GA G s.heap.size) (QM below args s (RM (d + 1) 0 0) Y G (fun r G' => RR G' x ra (tkeM n M c0 u) ∧ r = some (.inl (bI (decide (¬ bstN n (tkH n M u) u = 0)))))) 108 G1 0 0 [some (.inr (.inr (some x))), some (.inl (nI c0)), some (.inl (nI u)), some (.inl (nI b)), some (.inl (nI t)), some (.inl y)] [.inl (nI b')] := by
        intro b' y hb' hs'
        refine b_X9_take_108.go C ⟨_, nI_1 _, trivial, ?_⟩
        exact ih (t + 1) b' _ (by omega) hb' (by omega) (by rw [hs, bstF, ← hs'])
      have may : ∀ y : Bool, y = mayB M1 u t → V p l e (RM (d + 1) 0 0) s m args below meth c Y (GA G s.heap.size) (QM below args s (RM (d + 1) 0 0) Y G (fun r G' => RR G' x ra (tkeM n M c0 u) ∧ r = some (.inl (bI (decide (¬ bstN n (tkH n M u) u = 0)))))) 75 G1 0 0 [some (.inr (.inr (some x))), some (.inl (nI c0)), some (.inl (nI u)), some (.inl (nI b)), some (.inl (nI t)), o5] [.inl ((bI y))] := by
        intro y hy
        refine b_X9_take_75.go C ⟨fun h75 => ⟨trivial, ?_⟩, fun h75 => ⟨trivial, ?_⟩⟩
        · refine b_X9_take_107.go C ⟨trivial, ?_⟩
          exact nx b _ hb (by rw [if_neg (fun h => by rw [← hy, bI_0 h75] at h; cases h.1)])
        have hm : mayB M1 u t = true := by rw [← hy]; exact bI_1 h75
        refine b_X9_take_82.go C ⟨fun h82 => ⟨trivial, ?_⟩, fun h82 => ⟨trivial, ?_⟩⟩
        · have hb0 : b = 0 := (nI_eq (by omega) (by omega)).mp (by have h9 : (nI b = 0) := h82; rw [nI_0.symm] at h9; exact h9)
          refine b_X9_take_102.go C ⟨trivial, ?_⟩
          exact nx t _ (by omega) (by rw [if_pos ⟨hm, Or.inl hb0⟩])
        have hb0 : ¬ b = 0 := fun q9 => absurd (congrArg nI q9) (by have h9 : ¬ (nI b = 0) := h82; rw [nI_0.symm] at h9; exact h9)
        refine b_X9_take_86.go C ⟨_, R1.1, _, _, R1.2.1 20 (by decide) rfl, t, rfl, by show t < 201; omega, lb rfl, _, rfl, _, R1.1, _, _, R1.2.1 20 (by decide) rfl, b, rfl, by show b < 201; omega, lb rfl, _, rfl, fun h86 => ⟨trivial, ?_⟩, fun h86 => ⟨trivial, ?_⟩⟩
        · refine b_X9_take_107.go C ⟨trivial, ?_⟩
          exact nx b _ hb (by rw [if_neg (fun h => h.2.elim hb0 (fun z => absurd h86 (Int32.not_lt.mpr z)))])
        · refine b_X9_take_102.go C ⟨trivial, ?_⟩
          exact nx t _ (by omega) (by rw [if_pos ⟨hm, Or.inr (Int32.not_lt.mp h86)⟩])
      have no : mayB M1 u t = false → V p l e (RM (d + 1) 0 0) s m args below meth c Y (GA G s.heap.size) (QM below args s (RM (d + 1) 0 0) Y G (fun r G' => RR G' x ra (tkeM n M c0 u) ∧ r = some (.inl (bI (decide (¬ bstN n (tkH n M u) u = 0)))))) 74 G1 0 0 [some (.inr (.inr (some x))), some (.inl (nI c0)), some (.inl (nI u)), some (.inl (nI b)), some (.inl (nI t)), o5] [] := by
        intro h
        refine b_X9_take_74.go C ⟨trivial, ?_⟩
        exact may false h.symm
      refine b_X9_take_14.go C ⟨_, R1.1, fun h => absurd (show nI n < nI t from (by have h9 : (M1 1 0) < (nI t) := h; rw [hn'] at h9; exact h9)) (nI_nlt (by omega) (by omega)), fun h14 => ⟨trivial, ?_⟩⟩
      refine b_X9_take_23.go C ⟨_, R1.1, _, _, R1.2.1 2 (by decide) rfl, t, rfl, by show t < 201; omega, lb rfl, _, rfl, fun h23 => ⟨trivial, ?_⟩, fun h23 => ⟨trivial, ?_⟩⟩
      · exact no (decide_eq_false (fun h => absurd h.1 (Int32.not_le.mpr h23)))
      refine b_X9_take_35.go C ⟨_, R1.1, _, _, R1.2.1 8 (by decide) rfl, t, rfl, by show t < 201; omega, lb rfl, _, rfl, fun h35 => ⟨trivial, ?_⟩, fun h35 => ⟨trivial, ?_⟩⟩
      · exact no (decide_eq_false (fun h => h35 h.2.1))
      refine b_X9_take_45.go C ⟨_, R1.1, _, _, R1.2.1 19 (by decide) rfl, t, rfl, by show t < 201; omega, lb rfl, _, rfl, fun h45 => ⟨trivial, ?_⟩, fun h45 => ⟨trivial, ?_⟩⟩
      · exact no (decide_eq_false (fun h => h45 h.2.2.1))
      have yes : (u = 0 ∨ ¬ M1 56 t = 0) → V p l e (RM (d + 1) 0 0) s m args below meth c Y (GA G s.heap.size) (QM below args s (RM (d + 1) 0 0) Y G (fun r G' => RR G' x ra (tkeM n M c0 u) ∧ r = some (.inl (bI (decide (¬ bstN n (tkH n M u) u = 0)))))) 70 G1 0 0 [some (.inr (.inr (some x))), some (.inl (nI c0)), some (.inl (nI u)), some (.inl (nI b)), some (.inl (nI t)), o5] [] := by
        intro h
        refine b_X9_take_70.go C ⟨trivial, ?_⟩
        exact may true (decide_eq_true ⟨Int32.not_lt.mp h23, h35, h45, h⟩).symm
      refine b_X9_take_56.go C ⟨fun h56 => ⟨trivial, ?_⟩, fun h56 => ⟨trivial, ?_⟩⟩
      · have hu0 : u = 0 := (nI_eq (by omega) (by omega)).mp (by have h9 : (nI u = 0) := h56; rw [nI_0.symm] at h9; exact h9)
        exact yes (Or.inl hu0)
      have hu0 : ¬ u = 0 := fun q9 => absurd (congrArg nI q9) (by have h9 : ¬ (nI u = 0) := h56; rw [nI_0.symm] at h9; exact h9)
      refine b_X9_take_60.go C ⟨_, R1.1, _, _, R1.2.1 56 (by decide) rfl, t, rfl, by show t < 201; omega, lb rfl, _, rfl, fun h60 => ⟨trivial, ?_⟩, fun h60 => ⟨trivial, ?_⟩⟩
      · exact no (decide_eq_false (fun h => h.2.2.2.elim hu0 (fun z => z h60)))
      · exact yes (Or.inr h60)
  refine b_X9_take_0.go C ⟨fun h0 => ⟨trivial, ?_⟩, fun h0 => ⟨trivial, ?_⟩⟩
  · have hu0 : u = 0 := (nI_eq (by omega) (by omega)).mp (by have h9 : (nI u = 0) := h0; rw [nI_0.symm] at h9; exact h9)
    exact main G (by rw [tkH, if_pos hu0]; exact hR)
  have hu0 : ¬ u = 0 := fun q9 => absurd (congrArg nI q9) (by have h9 : ¬ (nI u = 0) := h0; rw [nI_0.symm] at h9; exact h9)
  refine b_X9_take_4.go C ⟨trivial, ?_⟩
  refine k_X9_take_6.go C X (r_hang d G x ra M u n hR hn hn2 hu hI) (rest := []) rfl rfl rfl (fun _ => ⟨x, 9, _, rfl, hR.1, by decide⟩) (lb rfl) (Rq.of (by omega) (by decide) (Nat.le_refl _) (Nat.le_refl _)) ?_
  rintro r G1 ⟨rfl, R1⟩
  exact main G1 (by rw [tkH, if_neg hu0]; exact R1)
end REFS
