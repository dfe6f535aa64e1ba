/-! failures, works: the small methods -/
section WORK
variable {l : Launch} {Y : YT}
/-- the cell of a failure -/
def fC (kd at' : Int32) (ca su : Option Nat) (wk pl ti tu : Int32) (b : Option Nat) : AC := .inr (3, [.inl kd, .inl at', .inr (.inr ca), .inr (.inr su), .inl wk, .inl pl, .inl ti, .inl tu, .inr (.inr b)])
theorem c_Failure4 (d : Nat) (G : GH) (a : Nat) (kd at' : Int32) (ca su : Option Nat) (ha : G a = some (fC 0 0 none none 0 0 0 0 none)) : Cd l yX2_init_ cX2_init_ 5 none (d + 1) 0 0 Y [.inr (.inr (some a)), .inl kd, .inl at', .inr (.inr ca), .inr (.inr su)] G (fun r G' => r = none ∧ G' = va_up G a (some (fC kd at' ca su (nI 0) (nI 0) (nI 0) (nI 0) none))) := by
  refine Ct.of (ini := True) (by decide +kernel) (fun _ => rfl) rfl (Nat.le_of_ble_eq_true rfl) ?_
  intro p e s m args below meth c C X
  refine b_X2_init__0.go C ⟨trivial, ?_⟩
  refine V_objInit C X q_547 d_X2_init__1 rfl ⟨Nat.succ_le_succ (Nat.zero_le _), by show 20 ≤ 40 * (d + 1); omega⟩ (Nat.zero_le _) ?_
  refine b_X2_init__4.go C ⟨_, ha, _, up_eq, _, up_eq, _, up_eq, _, up_eq, _, up_eq, _, up_eq, _, up_eq, trivial, ?_⟩
  refine b_X2_init__44.go C ⟨_, up_eq, trivial, ?_⟩
  exact V_vret C X d_X2_init__50 (Nat.zero_le _) (Nat.zero_le _) ⟨rfl, by simp only [bx_uu]; rfl⟩
theorem c_Failure2 (d : Nat) (G : GH) (a : Nat) (kd at' : Int32) (ha : G a = some (fC 0 0 none none 0 0 0 0 none)) : Cd l yX2_init cX2_init 3 none (d + 2) 1 0 Y [.inr (.inr (some a)), .inl kd, .inl at'] G (fun r G' => r = none ∧ ∃ q, G q = none ∧ G' = va_up (va_up G q (some (.inl (4, 0, .inr (.inr (.inr (.inr (fun _ => none)))))))) a (some (fC kd at' none (some q) (nI 0) (nI 0) (nI 0) (nI 0) none))) := by
  refine Ct.of (ini := True) (by decide +kernel) (fun _ => rfl) rfl (Nat.le_of_ble_eq_true rfl) ?_
  intro p e s m args below meth c C X
  refine b_X2_init_0.go C ⟨0, rfl, by decide, lb rfl, lb rfl, fun q hq => ⟨trivial, ?_⟩⟩
  have hqa := ne_none ha hq
  refine k_X2_init_8.go C X (c_Failure4 d _ a kd at' none (some q) ((up_ne hqa).trans ha)) (rest := []) rfl rfl rfl (fun _ => ⟨a, 3, _, rfl, (up_ne hqa).trans ha, by decide⟩) (Nat.zero_le _) (Rq.of (Nat.le_refl _) (by decide) (lb rfl) (lb rfl)) ?_
  rintro r G' ⟨rfl, rfl⟩
  exact V_vret C X d_X2_init_11 (lb rfl) (lb rfl) ⟨rfl, q, hq, rfl⟩
theorem c_stand (d : Nat) (G : GH) (a : Nat) (kd at' wk pl ti tu wk' pl' ti' : Int32) (ca su b b' : Option Nat) (ha : G a = some (fC kd at' ca su wk pl ti tu b)) : Cd l yX2_stand cX2_stand 5 none d 0 0 Y [.inr (.inr (some a)), .inl wk', .inl pl', .inr (.inr b'), .inl ti'] G (fun r G' => r = none ∧ G' = va_up G a (some (fC kd at' ca su wk' pl' ti' (nI 0) b'))) := by
  refine Ct.of (ini := False) (by decide +kernel) False.elim rfl (Nat.le_of_ble_eq_true rfl) ?_
  intro p e s m args below meth c C X
  refine b_X2_stand_0.go C ⟨_, ha, _, up_eq, _, up_eq, _, up_eq, _, up_eq, trivial, ?_⟩
  exact V_vret C X d_X2_stand_26 (Nat.zero_le _) (Nat.zero_le _) ⟨rfl, by simp only [bx_uu]; rfl⟩
theorem c_comesAheadOf (d : Nat) (G : GH) (a b : Nat) (σ σ' : Nat → Int32) (ρ ρ' : Nat → Option Nat) (ha : G a = some (stC true σ ρ)) (hb : G b = some (stC true σ' ρ')) : Cd l yX7_comesAheadOf cX7_comesAheadOf 2 (some .boolean) d 0 0 Y [.inr (.inr (some a)), .inr (.inr (some b))] G (fun r G' => G' = G ∧ r = some (.inl (bI (if σ 14 = σ' 14 then decide (σ' 0 < σ 0) else decide (σ 14 < σ' 14))))) := by
  refine Ct.of (ini := False) (by decide +kernel) False.elim rfl (Nat.le_of_ble_eq_true rfl) ?_
  intro p e s m args below meth c C X
  refine b_X7_comesAheadOf_0.go C ⟨_, ha, _, hb, fun h1 => ⟨trivial, ?_⟩, fun h1 => ⟨trivial, ?_⟩⟩
  · refine b_X7_comesAheadOf_30.go C ⟨_, ha, _, hb, fun h2 => ⟨trivial, ?_⟩, fun h2 => ⟨trivial, ?_⟩⟩
    · refine b_X7_comesAheadOf_45.go C ⟨trivial, ?_⟩
      exact V_zret C X d_X7_comesAheadOf_46 z0 (Nat.zero_le _) (Nat.zero_le _) ⟨rfl, by rw [if_neg h1, decide_eq_false (Int32.not_lt.mpr h2)]; rfl⟩
    · refine b_X7_comesAheadOf_41.go C ⟨trivial, ?_⟩
      exact V_zret C X d_X7_comesAheadOf_46 z1 (Nat.zero_le _) (Nat.zero_le _) ⟨rfl, by rw [if_neg h1, decide_eq_true (Int32.not_le.mp h2)]; rfl⟩
  · refine b_X7_comesAheadOf_11.go C ⟨_, ha, _, hb, fun h2 => ⟨trivial, ?_⟩, fun h2 => ⟨trivial, ?_⟩⟩
    · refine b_X7_comesAheadOf_26.go C ⟨trivial, ?_⟩
      exact V_zret C X d_X7_comesAheadOf_46 z0 (Nat.zero_le _) (Nat.zero_le _) ⟨rfl, by rw [if_pos h1, decide_eq_false (Int32.not_lt.mpr h2)]; rfl⟩
    · refine b_X7_comesAheadOf_22.go C ⟨trivial, ?_⟩
      exact V_zret C X d_X7_comesAheadOf_46 z1 (Nat.zero_le _) (Nat.zero_le _) ⟨rfl, by rw [if_pos h1, decide_eq_true (Int32.not_le.mp h2)]; rfl⟩
theorem c_beginSecondPart (d : Nat) (G : GH) (a : Nat) (x : Int32) (σ : Nat → Int32) (ρ : Nat → Option Nat) (ha : G a = some (stC true σ ρ)) : Cd l yX7_beginSecondPart cX7_beginSecondPart 2 none d 0 0 Y [.inr (.inr (some a)), .inl x] G (fun r G' => r = none ∧ G' = va_up G a (some (stC true (upd (upd (upd σ 18 (nI 0)) 15 (x + σ 13 - σ 13 / nI 2)) 6 (nI 2)) ρ))) := by
  refine Ct.of (ini := False) (by decide +kernel) False.elim rfl (Nat.le_of_ble_eq_true rfl) ?_
  intro p e s m args below meth c C X
  refine b_X7_beginSecondPart_0.go C ⟨z0, _, ha, _, up_eq, _, rfl, _, up_eq, by decide +kernel, _, rfl, _, rfl, _, up_eq, _, up_eq, trivial, ?_⟩
  exact V_vret C X d_X7_beginSecondPart_27 (Nat.zero_le _) (Nat.zero_le _) ⟨rfl, by simp only [bx_uu]; rfl⟩
/-- the state of a work that begins a working at the minute x -/
def bwS (σ : Nat → Int32) (x : Int32) : Nat → Int32 := upd (upd (upd (upd (upd σ 18 (bI (decide (σ 1 = nI 3)))) 17 (σ 17 + nI 1)) 16 x) 15 (x + (if σ 1 = nI 3 then σ 13 / nI 2 else σ 13))) 6 (nI 2)
theorem c_beginWorking (d : Nat) (G : GH) (a : Nat) (x : Int32) (σ : Nat → Int32) (ρ : Nat → Option Nat) (ha : G a = some (stC true σ ρ)) : Cd l yX7_beginWorking cX7_beginWorking 2 none d 0 0 Y [.inr (.inr (some a)), .inl x] G (fun r G' => r = none ∧ G' = va_up G a (some (stC true (bwS σ x) ρ))) := by
  refine Ct.of (ini := False) (by decide +kernel) False.elim rfl (Nat.le_of_ble_eq_true rfl) ?_
  intro p e s m args below meth c C X
  refine b_X7_beginWorking_0.go C ⟨_, ha, fun h1 => ⟨trivial, ?_⟩, fun h1 => ⟨trivial, ?_⟩⟩
  · refine b_X7_beginWorking_13.go C ⟨trivial, ?_⟩
    refine b_X7_beginWorking_14.go C ⟨z0, _, ha, _, up_eq, _, rfl, _, up_eq, _, up_eq, _, up_eq, fun h2 => ⟨trivial, ?_⟩, fun h2 => absurd nI_0 h2⟩
    refine b_X7_beginWorking_50.go C ⟨_, up_eq, trivial, ?_⟩
    refine b_X7_beginWorking_54.go C ⟨_, rfl, _, up_eq, _, up_eq, trivial, ?_⟩
    exact V_vret C X d_X7_beginWorking_63 (Nat.zero_le _) (Nat.zero_le _) ⟨rfl, by simp only [bx_uu, bwS, if_neg h1, decide_eq_false h1]; rfl⟩
  · refine b_X7_beginWorking_9.go C ⟨trivial, ?_⟩
    refine b_X7_beginWorking_14.go C ⟨z1, _, ha, _, up_eq, _, rfl, _, up_eq, _, up_eq, _, up_eq, fun h2 => absurd h2 (by decide +kernel), fun h2 => ⟨trivial, ?_⟩⟩
    refine b_X7_beginWorking_41.go C ⟨_, up_eq, by decide +kernel, _, rfl, trivial, ?_⟩
    refine b_X7_beginWorking_54.go C ⟨_, rfl, _, up_eq, _, up_eq, trivial, ?_⟩
    exact V_vret C X d_X7_beginWorking_63 (Nat.zero_le _) (Nat.zero_le _) ⟨rfl, by simp only [bx_uu, bwS, if_pos h1, decide_eq_true h1]; rfl⟩
/-- a row of stages at ia, N long -/
def rowS (G : GH) (ia N : Nat) (f : Nat → Option Nat) : Prop := G ia = some (.inl (5, N, .inr (.inr (.inr (.inr f))))) ∧ N ≤ 100000
/-- held, a closing work, its input ended -/
theorem c_isSetFree (d : Nat) (G : GH) (a ia N b : Nat) (w' : Bool) (σ σ' : Nat → Int32) (ρ ρ' f : Nat → Option Nat) (ha : G a = some (stC true σ ρ)) (hia : ρ 2 = some ia) (hI : rowS G ia N f) (hb : (if N = 0 then some a else f 0) = some b) (hb' : G b = some (stC w' σ' ρ')) : Cd l yX7_isSetFree cX7_isSetFree 1 (some .boolean) (d + 1) 0 0 Y [.inr (.inr (some a))] G (fun r G' => G' = G ∧ r = some (.inl (bI (decide (σ 1 = nI 4 ∧ σ 6 = 0 ∧ nI 5 ≤ σ' 6))))) := by
  refine Ct.of (ini := False) (by decide +kernel) False.elim rfl (Nat.le_of_ble_eq_true rfl) ?_
  intro p e s m args below meth c C X
  refine b_X7_isSetFree_0.go C ⟨_, ha, fun h1 => ⟨trivial, ?_⟩, fun h1 => ⟨trivial, ?_⟩⟩
  · refine b_X7_isSetFree_29.go C ⟨trivial, ?_⟩
    exact V_zret C X d_X7_isSetFree_30 z0 (Nat.zero_le _) (Nat.zero_le _) ⟨rfl, by rw [decide_eq_false (fun h => h1 h.1)]; rfl⟩
  · refine b_X7_isSetFree_8.go C ⟨_, ha, fun h2 => ⟨trivial, ?_⟩, fun h2 => ⟨trivial, ?_⟩⟩
    · refine b_X7_isSetFree_29.go C ⟨trivial, ?_⟩
      exact V_zret C X d_X7_isSetFree_30 z0 (Nat.zero_le _) (Nat.zero_le _) ⟨rfl, by rw [decide_eq_false (fun h => h2 h.2.1)]; rfl⟩
    · refine b_X7_isSetFree_15.go C ⟨trivial, ?_⟩
      refine k_X7_isSetFree_16.go C X (c_firstInput d G a ia N true σ ρ f ha hia hI.1 hI.2) (rest := []) rfl rfl rfl (fun _ => ⟨a, 7, _, rfl, ha, by decide⟩) (Nat.zero_le _) (Rq.of (Nat.le_refl _) (by decide) (Nat.le_refl _) (Nat.le_refl _)) ?_
      rintro r G' ⟨rfl, rfl⟩
      rw [hb]
      refine k_X7_isSetFree_19.go C X (c_hasEnded d G' b w' σ' ρ' hb') (rest := []) rfl rfl rfl (fun _ => ⟨b, _, _, rfl, hb', stC_in w'⟩) (Nat.zero_le _) (Rq.of (Nat.le_refl _) (by decide) (Nat.le_refl _) (Nat.le_refl _)) ?_
      rintro r G'' ⟨rfl, rfl⟩
      refine b_X7_isSetFree_22.go C ⟨fun h3 => ⟨trivial, ?_⟩, fun h3 => ⟨trivial, ?_⟩⟩
      · refine b_X7_isSetFree_29.go C ⟨trivial, ?_⟩
        refine V_zret C X d_X7_isSetFree_30 z0 (Nat.zero_le _) (Nat.zero_le _) ⟨rfl, ?_⟩
        have h5 : ¬ (σ 1 = nI 4 ∧ σ 6 = 0 ∧ nI 5 ≤ σ' 6) := fun h => by
          rw [if_pos h.2.2] at h3
          exact absurd h3 (by decide +kernel)
        rw [decide_eq_false h5]; rfl
      · refine b_X7_isSetFree_25.go C ⟨trivial, ?_⟩
        refine V_zret C X d_X7_isSetFree_30 z1 (Nat.zero_le _) (Nat.zero_le _) ⟨rfl, ?_⟩
        have h5 : nI 5 ≤ σ' 6 := by
          by_cases h4 : nI 5 ≤ σ' 6
          · exact h4
          · rw [if_neg h4] at h3; exact absurd nI_0 h3
        rw [decide_eq_true ⟨h1, h2, h5⟩]; rfl
end WORK
