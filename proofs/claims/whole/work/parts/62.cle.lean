/-! the class: the rules of onFailure, always -/
section CLE
variable {l : Launch} {Y : YT}
/-- the failures' numbers and kinds -/
def flK (K : MS) (n F : Nat) : Prop := (∀ u, 1 ≤ u → u ≤ n → K 18 u = nI (nN K 18 u)) ∧ (∀ f, 1 ≤ f → f ≤ F → K 50 f = nI (nN K 50 f) ∧ nN K 50 f ≤ 15)
theorem flK.at {G : GH} {A : AS} {n F : Nat} {K : MS} {L : KL} (h : flK K n F) (hR : KR Y G A n F K L) {u : Nat} (hu : 1 ≤ u ∧ u ≤ n) (h0 : ¬ K 18 u = 0) : 1 ≤ nN K 18 u ∧ nN K 18 u ≤ F ∧ dec A 6 (K 18 u) = some (A 6 (nN K 18 u)) := by
  have e := h.1 u hu.1 hu.2
  have h2 : nN K 18 u ≤ F := hR.2.2.2.2.2 18 u (by decide) hu
  have hF := hR.2.2.2.1
  have h1 : nN K 18 u ≠ 0 := fun z => h0 (by rw [e, z]; exact nI_0)
  exact ⟨by omega, h2, dec_n e (by omega) (by omega)⟩
theorem KR.stF {G : GH} {A : AS} {n F : Nat} {K : MS} {L : KL} (h : KR Y G A n F K L) {u b : Nat} (hu : 1 ≤ u ∧ u ≤ n) (hd : dec A 6 (K 18 u) = some b) : G (A 1 u) = some (stC (isWK K u) (sgK K u) (va_up (rhK A K u) 8 (some b))) := by
  rw [h.st hu]
  refine congrArg some (sg_congr (fun _ _ _ _ _ _ _ _ => rfl) (fun j hj => ?_))
  by_cases e : j = 8
  · subst e; rw [up_eq]; exact hd
  · rw [up_ne e]
def onfR (K : MS) (i : Nat) : Rs := if nI 5 ≤ K 16 (iK K i 0) then (if K 18 (iK K i 0) = 0 ∨ und (nN K 50 (nN K 18 (iK K i 0))) (nN K 13 i) = false then rsA (iK K i 0) else if nI 5 ≤ K 16 (iK K i (nN K 12 i - 1)) then rsA (iK K i (nN K 12 i - 1)) else rsN) else rsN
set_option maxHeartbeats 1000000 in
theorem k_settleOnFailure (d : Nat) (G : GH) (A : AS) (n F : Nat) (K : MS) (L : KL) (i0 kd : Nat) (hR : KR Y G A n F K L) (hi : 1 ≤ i0 ∧ i0 ≤ n) (hup : upK K n i0) (hk : K 13 i0 = nI kd) (hk2 : kd ≤ 15) (hfl : flK K n F) : Cd l yX5_settleOnFailure cX5_settleOnFailure 3 none (d + 1) 0 0 Y [.inr (.inr (some (A 1 i0)))] G (fun r G' => r = none ∧ SP Y G' A n F K L i0 (onfR K i0)) := by
  refine Ct.of (ini := False) (by decide +kernel) False.elim rfl (Nat.le_of_ble_eq_true rfl) ?_
  intro p e s m args below meth c C X
  have hn := hR.2.2.1
  have hF := hR.2.2.2.1
  have ek : nN K 13 i0 = kd := nN_of hk (by omega)
  have hk1 := hup.2.1
  have hN := hup.1.2.1
  obtain ⟨-, f2, f3⟩ := hup.1.2.2 0 (by omega)
  have f4 := hup.2.2 0 (by omega)
  obtain ⟨-, l2, l3⟩ := hup.1.2.2 (nN K 12 i0 - 1) (by omega)
  have l4 := hup.2.2 (nN K 12 i0 - 1) (by omega)
  refine b_X5_settleOnFailure_0.go C ⟨trivial, ?_⟩
  refine k_X5_settleOnFailure_1.go C X (k_firstInput d G A n F K L i0 hR hi hup.1 hk1) (rest := []) rfl rfl rfl (fun _ => ⟨_, _, _, rfl, hR.st (by omega), stC_in _⟩) (lb rfl) (Rq.of (by omega) (by decide) (Nat.le_refl _) (Nat.le_refl _)) ?_
  rintro r G9 ⟨h9, rfl⟩
  replace h9 := h9.symm
  subst h9
  refine b_X5_settleOnFailure_4.go C ⟨trivial, ?_⟩
  refine k_X5_settleOnFailure_6.go C X (k_lastInput d G A n F K L i0 hR hi hup.1 hk1) (rest := []) rfl rfl rfl (fun _ => ⟨_, _, _, rfl, hR.st (by omega), stC_in _⟩) (lb rfl) (Rq.of (by omega) (by decide) (Nat.le_refl _) (Nat.le_refl _)) ?_
  rintro r G9 ⟨h9, rfl⟩
  replace h9 := h9.symm
  subst h9
  refine b_X5_settleOnFailure_9.go C ⟨trivial, ?_⟩
  refine k_X5_settleOnFailure_11.go C X (c_hasEnded d G (A 1 (iK K i0 0)) _ _ _ (hR.st ⟨f2, f3⟩)) (rest := []) rfl rfl rfl (fun _ => ⟨_, _, _, rfl, hR.st (by omega), stC_in _⟩) (lb rfl) (Rq.of (by omega) (by decide) (Nat.le_refl _) (Nat.le_refl _)) ?_
  rintro r G9 ⟨h9, rfl⟩
  replace h9 := h9.symm
  subst h9
  refine b_X5_settleOnFailure_14.go C ⟨fun h14 => ⟨trivial, ?_⟩, fun h14 => ⟨trivial, ?_⟩⟩
  rotate_left
  · have h1 : ¬ nI 5 ≤ K 16 (iK K i0 0) := wi_0 h14
    exact V_vret C X d_X5_settleOnFailure_17 (Nat.zero_le _) (Nat.zero_le _) ⟨rfl, by rw [onfR, if_neg h1]; exact SP.no hR i0⟩
  have h1 : nI 5 ≤ K 16 (iK K i0 0) := wi_1 h14
  have same : (K 18 (iK K i0 0) = 0 ∨ und (nN K 50 (nN K 18 (iK K i0 0))) (nN K 13 i0) = false) → V p l e (RM (d + 1) 0 0) s m args below meth c Y (GA G s.heap.size) (QM below args s (RM (d + 1) 0 0) Y G (fun r G' => r = none ∧ SP Y G' A n F K L i0 (onfR K i0))) 42 G 0 0 [some (.inr (.inr (some (A 1 i0)))), some (.inr (.inr (some (A 1 (iK K i0 0))))), some (.inr (.inr (some (A 1 (iK K i0 (nN K 12 i0 - 1))))))] [] := by
    intro hb
    refine b_X5_settleOnFailure_42.go C ⟨trivial, ?_⟩
    refine k_X5_settleOnFailure_44.go C X (c_endAs d G (A 1 i0) (A 1 (iK K i0 0)) _ _ _ _ _ _ (hR.ne1 hi ⟨f2, f3⟩ (by omega)) (hR.st hi) (hR.st ⟨f2, f3⟩)) (rest := []) rfl rfl rfl (fun _ => ⟨_, _, _, rfl, hR.st (by omega), stC_in _⟩) (lb rfl) (Rq.of (by omega) (by decide) (Nat.le_refl _) (Nat.le_refl _)) ?_
    rintro r G9 ⟨rfl, rfl⟩
    refine b_X5_settleOnFailure_47.go C ⟨trivial, ?_⟩
    exact V_vret C X d_X5_settleOnFailure_62 (Nat.zero_le _) (Nat.zero_le _) ⟨rfl, by rw [onfR, if_pos h1, if_pos hb]; exact SP.as hR hi ⟨f2, f3⟩⟩
  refine b_X5_settleOnFailure_18.go C ⟨_, _, hR.st (by omega), stC_ci _, (fun h18 => ⟨trivial, ?_⟩), (fun a18 h18 => ⟨trivial, ?_⟩)⟩
  · exact same (Or.inl (dec_e h18))
  have h0 : ¬ K 18 (iK K i0 0) = 0 := (dec_s h18).1
  obtain ⟨g1, g2, g3⟩ := hfl.at hR ⟨f2, f3⟩ h0
  obtain ⟨g4, g5⟩ := hfl.2 _ g1 g2
  refine b_X5_settleOnFailure_25.go C ⟨_, _, hR.stF ⟨f2, f3⟩ g3, stC_ci _, _, hR.fl ⟨g1, g2⟩, _, _, hR.st hi, stC_ci _, trivial, ?_⟩
  rw [show sgK K i0 3 = nI kd from hk, g4]
  refine k_X5_settleOnFailure_36.go C X (c_isUnder d G (nN K 50 (nN K 18 (iK K i0 0))) kd g5 hk2) (rest := []) rfl rfl rfl (fun h => absurd rfl h) (lb rfl) (Rq.of (by omega) (by decide) (Nat.le_refl _) (Nat.le_refl _)) ?_
  rintro r G9 ⟨h9, rfl⟩
  replace h9 := h9.symm
  subst h9
  refine b_X5_settleOnFailure_39.go C ⟨fun h39 => ⟨trivial, ?_⟩, fun h39 => ⟨trivial, ?_⟩⟩
  rotate_left
  · exact same (Or.inr (by rw [ek]; exact bI_0 h39))
  have hb : ¬ (K 18 (iK K i0 0) = 0 ∨ und (nN K 50 (nN K 18 (iK K i0 0))) (nN K 13 i0) = false) := by
    rintro (z | z)
    · exact h0 z
    · rw [ek, bI_1 h39] at z; cases z
  refine b_X5_settleOnFailure_50.go C ⟨trivial, ?_⟩
  refine k_X5_settleOnFailure_51.go C X (c_hasEnded d G (A 1 (iK K i0 (nN K 12 i0 - 1))) _ _ _ (hR.st ⟨l2, l3⟩)) (rest := []) rfl rfl rfl (fun _ => ⟨_, _, _, rfl, hR.st (by omega), stC_in _⟩) (lb rfl) (Rq.of (by omega) (by decide) (Nat.le_refl _) (Nat.le_refl _)) ?_
  rintro r G9 ⟨h9, rfl⟩
  replace h9 := h9.symm
  subst h9
  refine b_X5_settleOnFailure_54.go C ⟨fun h54 => ⟨trivial, ?_⟩, fun h54 => ⟨trivial, ?_⟩⟩
  · have h2 : ¬ nI 5 ≤ K 16 (iK K i0 (nN K 12 i0 - 1)) := wi_0 h54
    exact V_vret C X d_X5_settleOnFailure_62 (Nat.zero_le _) (Nat.zero_le _) ⟨rfl, by rw [onfR, if_pos h1, if_neg hb, if_neg h2]; exact SP.no hR i0⟩
  have h2 : nI 5 ≤ K 16 (iK K i0 (nN K 12 i0 - 1)) := wi_1 h54
  refine b_X5_settleOnFailure_57.go C ⟨trivial, ?_⟩
  refine k_X5_settleOnFailure_59.go C X (c_endAs d G (A 1 i0) (A 1 (iK K i0 (nN K 12 i0 - 1))) _ _ _ _ _ _ (hR.ne1 hi ⟨l2, l3⟩ (by omega)) (hR.st hi) (hR.st ⟨l2, l3⟩)) (rest := []) rfl rfl rfl (fun _ => ⟨_, _, _, rfl, hR.st (by omega), stC_in _⟩) (lb rfl) (Rq.of (by omega) (by decide) (Nat.le_refl _) (Nat.le_refl _)) ?_
  rintro r G9 ⟨rfl, rfl⟩
  exact V_vret C X d_X5_settleOnFailure_62 (Nat.zero_le _) (Nat.zero_le _) ⟨rfl, by rw [onfR, if_pos h1, if_neg hb, if_pos h2]; exact SP.as hR hi ⟨l2, l3⟩⟩
/-- one suppressed failure -/
def sup1 (v : Int32) : Nat → Int32 := fun j => if j = 0 then v else 0
def alwR (K : MS) (i : Nat) : Rs := if nI 5 ≤ K 16 (iK K i 0) ∧ nI 5 ≤ K 16 (iK K i (nN K 12 i - 1)) then (if K 16 (iK K i 0) = nI 7 ∨ K 18 (iK K i (nN K 12 i - 1)) = 0 then rsA (iK K i 0) else if K 18 (iK K i 0) = 0 then rsA (iK K i (nN K 12 i - 1)) else rsF (K 50 (nN K 18 (iK K i 0))) (K 18 (iK K i 0)) 1 (sup1 (K 18 (iK K i (nN K 12 i - 1))))) else rsN
set_option maxHeartbeats 1000000 in
theorem k_settleAlways (d : Nat) (G : GH) (A : AS) (n F : Nat) (K : MS) (L : KL) (i0 : Nat) (hR : KR Y G A n F K L) (hi : 1 ≤ i0 ∧ i0 ≤ n) (hup : upK K n i0) (hfl : flK K n F) (hF1 : F + 1 ≤ 2000) : Cd l yX5_settleAlways cX5_settleAlways 4 none (d + 2) ((rsC (alwR K i0))) ((rsC (alwR K i0))) Y [.inr (.inr (some (A 1 i0)))] G (fun r G' => r = none ∧ SP Y G' A n F K L i0 (alwR K i0)) := by
  refine Ct.of (ini := False) (by decide +kernel) False.elim rfl (Nat.le_of_ble_eq_true rfl) ?_
  intro p e s m args below meth c C X
  have hn := hR.2.2.1
  have hF := hR.2.2.2.1
  have hk1 := hup.2.1
  have hN := hup.1.2.1
  obtain ⟨-, f2, f3⟩ := hup.1.2.2 0 (by omega)
  have f4 := hup.2.2 0 (by omega)
  obtain ⟨-, l2, l3⟩ := hup.1.2.2 (nN K 12 i0 - 1) (by omega)
  have l4 := hup.2.2 (nN K 12 i0 - 1) (by omega)
  refine b_X5_settleAlways_0.go C ⟨trivial, ?_⟩
  refine k_X5_settleAlways_1.go C X (k_firstInput d G A n F K L i0 hR hi hup.1 hk1) (rest := []) rfl rfl rfl (fun _ => ⟨_, _, _, rfl, hR.st (by omega), stC_in _⟩) (lb rfl) (Rq.of (by omega) (by decide) (by show _ ≤ rsC (alwR K i0); omega) (by show _ ≤ rsC (alwR K i0); omega)) ?_
  rintro r G9 ⟨h9, rfl⟩
  replace h9 := h9.symm
  subst h9
  refine b_X5_settleAlways_4.go C ⟨trivial, ?_⟩
  refine k_X5_settleAlways_6.go C X (k_lastInput d G A n F K L i0 hR hi hup.1 hk1) (rest := []) rfl rfl rfl (fun _ => ⟨_, _, _, rfl, hR.st (by omega), stC_in _⟩) (lb rfl) (Rq.of (by omega) (by decide) (by show _ ≤ rsC (alwR K i0); omega) (by show _ ≤ rsC (alwR K i0); omega)) ?_
  rintro r G9 ⟨h9, rfl⟩
  replace h9 := h9.symm
  subst h9
  refine b_X5_settleAlways_9.go C ⟨trivial, ?_⟩
  refine k_X5_settleAlways_11.go C X (c_hasEnded d G (A 1 (iK K i0 0)) _ _ _ (hR.st ⟨f2, f3⟩)) (rest := []) rfl rfl rfl (fun _ => ⟨_, _, _, rfl, hR.st (by omega), stC_in _⟩) (lb rfl) (Rq.of (by omega) (by decide) (by show _ ≤ rsC (alwR K i0); omega) (by show _ ≤ rsC (alwR K i0); omega)) ?_
  rintro r G9 ⟨h9, rfl⟩
  replace h9 := h9.symm
  subst h9
  have no : ¬ (nI 5 ≤ K 16 (iK K i0 0) ∧ nI 5 ≤ K 16 (iK K i0 (nN K 12 i0 - 1))) → V p l e (RM (d + 2) (((rsC (alwR K i0)))) (((rsC (alwR K i0))))) s m args below meth c Y (GA G s.heap.size) (QM below args s (RM (d + 2) (((rsC (alwR K i0)))) (((rsC (alwR K i0))))) Y G (fun r G' => r = none ∧ SP Y G' A n F K L i0 (alwR K i0))) 24 G 0 0 [some (.inr (.inr (some (A 1 i0)))), some (.inr (.inr (some (A 1 (iK K i0 0))))), some (.inr (.inr (some (A 1 (iK K i0 (nN K 12 i0 - 1)))))), none] [] := by
    intro hb
    exact V_vret C X d_X5_settleAlways_24 (by show _ ≤ ((rsC (alwR K i0))); omega) (by show _ ≤ ((rsC (alwR K i0))); omega) ⟨rfl, by rw [alwR, if_neg hb]; exact SP.no hR i0⟩
  refine b_X5_settleAlways_14.go C ⟨fun h14 => ⟨trivial, ?_⟩, fun h14 => ⟨trivial, ?_⟩⟩
  · have h1 : ¬ nI 5 ≤ K 16 (iK K i0 0) := wi_0 h14
    exact no (fun z => h1 z.1)
  have h1 : nI 5 ≤ K 16 (iK K i0 0) := wi_1 h14
  refine b_X5_settleAlways_17.go C ⟨trivial, ?_⟩
  refine k_X5_settleAlways_18.go C X (c_hasEnded d G (A 1 (iK K i0 (nN K 12 i0 - 1))) _ _ _ (hR.st ⟨l2, l3⟩)) (rest := []) rfl rfl rfl (fun _ => ⟨_, _, _, rfl, hR.st (by omega), stC_in _⟩) (lb rfl) (Rq.of (by omega) (by decide) (by show _ ≤ rsC (alwR K i0); omega) (by show _ ≤ rsC (alwR K i0); omega)) ?_
  rintro r G9 ⟨h9, rfl⟩
  replace h9 := h9.symm
  subst h9
  refine b_X5_settleAlways_21.go C ⟨fun h21 => ⟨trivial, ?_⟩, fun h21 => ⟨trivial, ?_⟩⟩
  rotate_left
  · have h2 : ¬ nI 5 ≤ K 16 (iK K i0 (nN K 12 i0 - 1)) := wi_0 h21
    exact no (fun z => h2 z.2)
  have h2 : nI 5 ≤ K 16 (iK K i0 (nN K 12 i0 - 1)) := wi_1 h21
  have same : (K 16 (iK K i0 0) = nI 7 ∨ K 18 (iK K i0 (nN K 12 i0 - 1)) = 0) → V p l e (RM (d + 2) (((rsC (alwR K i0)))) (((rsC (alwR K i0))))) s m args below meth c Y (GA G s.heap.size) (QM below args s (RM (d + 2) (((rsC (alwR K i0)))) (((rsC (alwR K i0))))) Y G (fun r G' => r = none ∧ SP Y G' A n F K L i0 (alwR K i0))) 41 G 0 0 [some (.inr (.inr (some (A 1 i0)))), some (.inr (.inr (some (A 1 (iK K i0 0))))), some (.inr (.inr (some (A 1 (iK K i0 (nN K 12 i0 - 1)))))), none] [] := by
    intro hb
    refine b_X5_settleAlways_41.go C ⟨trivial, ?_⟩
    refine k_X5_settleAlways_43.go C X (c_endAs d G (A 1 i0) (A 1 (iK K i0 0)) _ _ _ _ _ _ (hR.ne1 hi ⟨f2, f3⟩ (by omega)) (hR.st hi) (hR.st ⟨f2, f3⟩)) (rest := []) rfl rfl rfl (fun _ => ⟨_, _, _, rfl, hR.st (by omega), stC_in _⟩) (lb rfl) (Rq.of (by omega) (by decide) (by show _ ≤ rsC (alwR K i0); omega) (by show _ ≤ rsC (alwR K i0); omega)) ?_
    rintro r G9 ⟨rfl, rfl⟩
    refine b_X5_settleAlways_46.go C ⟨trivial, ?_⟩
    exact V_vret C X d_X5_settleAlways_103 (by show _ ≤ ((rsC (alwR K i0))); omega) (by show _ ≤ ((rsC (alwR K i0))); omega) ⟨rfl, by rw [alwR, if_pos ⟨h1, h2⟩, if_pos hb]; exact SP.as hR hi ⟨f2, f3⟩⟩
  refine b_X5_settleAlways_25.go C ⟨_, _, hR.st (by omega), stC_ci _, fun h25 => ⟨trivial, ?_⟩, fun h25 => ⟨trivial, ?_⟩⟩
  · exact same (Or.inl h25)
  refine b_X5_settleAlways_34.go C ⟨_, _, hR.st (by omega), stC_ci _, (fun a34 h34 => ⟨trivial, ?_⟩), (fun h34 => ⟨trivial, ?_⟩)⟩
  rotate_left
  · exact same (Or.inr (dec_e h34))
  have c0 : ¬ K 18 (iK K i0 (nN K 12 i0 - 1)) = 0 := (dec_s h34).1
  have hb : ¬ (K 16 (iK K i0 0) = nI 7 ∨ K 18 (iK K i0 (nN K 12 i0 - 1)) = 0) := by
    rintro (z | z)
    · exact h25 z
    · exact c0 z
  refine b_X5_settleAlways_49.go C ⟨_, _, hR.st (by omega), stC_ci _, (fun a49 h49 => ⟨trivial, ?_⟩), (fun h49 => ⟨trivial, ?_⟩)⟩
  rotate_left
  · have s0 : K 18 (iK K i0 0) = 0 := dec_e h49
    refine b_X5_settleAlways_56.go C ⟨trivial, ?_⟩
    refine k_X5_settleAlways_58.go C X (c_endAs d G (A 1 i0) (A 1 (iK K i0 (nN K 12 i0 - 1))) _ _ _ _ _ _ (hR.ne1 hi ⟨l2, l3⟩ (by omega)) (hR.st hi) (hR.st ⟨l2, l3⟩)) (rest := []) rfl rfl rfl (fun _ => ⟨_, _, _, rfl, hR.st (by omega), stC_in _⟩) (lb rfl) (Rq.of (by omega) (by decide) (by show _ ≤ rsC (alwR K i0); omega) (by show _ ≤ rsC (alwR K i0); omega)) ?_
    rintro r G9 ⟨rfl, rfl⟩
    refine b_X5_settleAlways_61.go C ⟨trivial, ?_⟩
    exact V_vret C X d_X5_settleAlways_103 (by show _ ≤ ((rsC (alwR K i0))); omega) (by show _ ≤ ((rsC (alwR K i0))); omega) ⟨rfl, by rw [alwR, if_pos ⟨h1, h2⟩, if_neg hb, if_pos s0]; exact SP.as hR hi ⟨l2, l3⟩⟩
  have s0 : ¬ K 18 (iK K i0 0) = 0 := (dec_s h49).1
  obtain ⟨g1, g2, g3⟩ := hfl.at hR ⟨f2, f3⟩ s0
  obtain ⟨m1, m2, m3⟩ := hfl.at hR ⟨l2, l3⟩ c0
  have hc9 : rsC (alwR K i0) = 64 := by rw [alwR, if_pos ⟨h1, h2⟩, if_neg hb, if_neg s0]; rfl
  refine b_X5_settleAlways_64.go C ⟨1, rfl, by decide, by show _ ≤ rsC (alwR K i0); omega, by show _ ≤ rsC (alwR K i0); omega, fun qs hqs => ?_⟩
  have R1 := hR.fresh hqs (oar 4 1 (fun _ => none))
  have R2 := hR.fresh hqs (oar 4 1 (va_up (fun _ => none) 0 (some (A 6 (nN K 18 (iK K i0 (nN K 12 i0 - 1)))))))
  refine ⟨_, _, R1.stF ⟨l2, l3⟩ m3, stC_ci _, fun b hb9 => by cases hb9; exact ⟨_, _, R1.fl ⟨m1, m2⟩, by decide⟩, 1, _, up_eq, 0, rfl, by decide, by decide, by show _ ≤ rsC (alwR K i0); omega, by show _ ≤ rsC (alwR K i0); omega, ?_⟩
  rw [bx_uu]
  intro qf hqf
  have R3 := R2.fresh hqf (fC 0 0 none none 0 0 0 0 none)
  refine ⟨_, _, R3.stF ⟨f2, f3⟩ g3, stC_ci _, _, R3.fl ⟨g1, g2⟩, _, _, R3.st hi, stC_ci _, _, _, R3.st ⟨f2, f3⟩, stC_ci _, trivial, ?_⟩
  have hne : qs ≠ qf := ne_none up_eq hqf
  have hqf' : G qf = none := (up_ne (Ne.symm hne)).symm.trans hqf
  refine k_X5_settleAlways_97.go C X (c_Failure4 d _ qf (K 50 (nN K 18 (iK K i0 0))) (K 10 i0) (dec A 6 (K 18 (iK K i0 0))) (some qs) up_eq) (rest := [.inr (.inr (some qf)), .inr (.inr (some (A 1 i0)))]) rfl rfl rfl (fun _ => ⟨_, _, _, rfl, up_eq, by decide⟩) (lb rfl) (Rq.of (by omega) (by decide) (by show _ ≤ rsC (alwR K i0); omega) (by show _ ≤ rsC (alwR K i0); omega)) ?_
  rintro r G9 ⟨rfl, rfl⟩
  rw [bx_uu]
  obtain ⟨w0, σ0, ρ0, hst, hSP⟩ := SP.fl (g := va_up (fun _ => none) 0 (some (A 6 (nN K 18 (iK K i0 (nN K 12 i0 - 1)))))) (kd := K 50 (nN K 18 (iK K i0 0))) (ca := K 18 (iK K i0 0)) (sup := sup1 (K 18 (iK K i0 (nN K 12 i0 - 1)))) (ns := 1) hR hi hF1 hqs hqf' hne g2 (fun j => by unfold sup1; split; exact m2; exact Nat.zero_le _) (by omega) (fun j => by
    unfold sup1
    by_cases hj : j = 0
    · rw [hj, up_eq, if_pos rfl, m3]
    · rw [up_ne hj, if_neg hj, dec_0 rfl])
  refine k_X5_settleAlways_100.go C X (c_fail d _ (A 1 i0) w0 σ0 ρ0 (some qf) hst) (rest := []) rfl rfl rfl (fun _ => ⟨_, _, _, rfl, hst, stC_in _⟩) (lb rfl) (Rq.of (by omega) (by decide) (by show _ ≤ rsC (alwR K i0); omega) (by show _ ≤ rsC (alwR K i0); omega)) ?_
  rintro r G9 ⟨rfl, rfl⟩
  exact V_vret C X d_X5_settleAlways_103 (by show _ ≤ ((rsC (alwR K i0))); omega) (by show _ ≤ ((rsC (alwR K i0))); omega) ⟨rfl, by rw [alwR, if_pos ⟨h1, h2⟩, if_neg hb, if_neg s0]; exact hSP⟩
end CLE
