/-! the reference: mark, withValue, withFailure, as -/
section REFE
variable {l : Launch} {Y : YT}
/-- what mark asks: room among the ends and in the log; a work that a cook has lies in his pile -/
def markOk (M : MS) (s : Nat) : Prop := s ≤ 200 ∧ (∃ e, M 16 0 = nI e ∧ e < 200) ∧ (∃ g, M 53 0 = nI g ∧ g < 4000) ∧ (atC M s = true → ∃ c q, M 25 s = nI c ∧ c ≤ 12 ∧ M 47 c = nI q ∧ q ≤ 200)
theorem r_mark (d : Nat) (G : GH) (x : Nat) (ra : Nat → Nat) (M : MS) (t : Nat) (how : Int32) (hR : RR G x ra M) (ok : markOk M t) : Cd l yX9_mark cX9_mark 3 none (d + 1) 0 0 Y [.inr (.inr (some x)), .inl (nI t), .inl how] G (fun r G' => r = none ∧ RR G' x ra (markM M t how)) := by
  obtain ⟨ht, ⟨e0, he, he2⟩, ⟨g, hg, hg2⟩, hat⟩ := ok
  refine Ct.of (ini := False) (by decide +kernel) False.elim rfl (Nat.le_of_ble_eq_true rfl) ?_
  intro p e s m args below meth c C X
  have ee : nN M 16 0 = e0 := nN_of he (by omega)
  have eg : nN M 53 0 = g := nN_of hg (by omega)
  have hlt : t < 201 := by omega
  have hle : e0 + 1 < 201 := by omega
  have R1 := hR.st 8 t how (by decide) rfl
  have R2 := R1.st 9 t (M 0 0) (by decide) rfl
  have R3 := R2.s16 (nI (e0 + 1))
  have R4 := R3.st 10 t (nI (e0 + 1)) (by decide) rfl
  have R5 := R4.st 15 (e0 + 1) (nI t) (by decide) rfl
  refine b_X9_mark_0.go C ⟨_, hR.1, _, _, hR.2.1 8 (by decide) rfl, t, rfl, hlt, lb rfl, _, R1.1, _, R1.1, _, _, R1.2.1 9 (by decide) rfl, t, rfl, hlt, lb rfl, _, R2.1, _, (congrArg (· + nI 1) he).trans (nI_1 e0), _, R2.1, _, R3.1, _, R3.1, _, _, R3.2.1 10 (by decide) rfl, t, rfl, hlt, lb rfl, trivial, ?_⟩
  refine b_X9_mark_38.go C ⟨_, R4.1, _, R4.1, _, _, R4.2.1 15 (by decide) rfl, e0 + 1, rfl, hle, lb rfl, _, rfl, trivial, ?_⟩
  refine k_X9_mark_52.go C X (r_note d _ x ra _ g (nI t) (how + nI 1) R5 hg hg2) (rest := []) rfl rfl rfl (fun _ => ⟨x, 9, _, rfl, R5.1, by decide⟩) (Nat.zero_le _) (Rq.of (Nat.le_refl _) (by decide) (Nat.le_refl _) (Nat.le_refl _)) ?_
  rintro r G' ⟨rfl, R6⟩
  have eA : markA M t how = noteM (up2 (up2 (up2 (up2 (up2 M 8 t how) 9 t (M 0 0)) 16 0 (nI (e0 + 1))) 10 t (nI (e0 + 1))) 15 (e0 + 1) (nI t)) g (nI t) (how + nI 1) := by rw [markA, ee, eg]
  rw [← eA] at R6
  have m2 : markA M t how 2 t = M 2 t := by rw [eA]; rfl
  have m19 : markA M t how 19 t = M 19 t := by rw [eA]; rfl
  refine b_X9_mark_55.go C ⟨_, R6.1, _, _, R6.2.1 2 (by decide) rfl, t, rfl, hlt, lb rfl, _, m2, fun h1 => ⟨trivial, ?_⟩, fun h1 => ⟨trivial, ?_⟩⟩
  · have hn : atC M t = false := decide_eq_false (fun h => absurd h.1 (Int32.not_le.mpr h1))
    exact V_vret C X d_X9_mark_107 (Nat.zero_le _) (Nat.zero_le _) ⟨rfl, by rw [markM, hn]; exact R6⟩
  have h1' := Int32.not_lt.mp h1
  have last : atC M t = true → V p l e (RM (d + 1) 0 0) s m args below meth c Y (GA G s.heap.size) (QM below args s (RM (d + 1) 0 0) Y G (fun r G' => r = none ∧ RR G' x ra (markM M t how))) 86 G' 0 0 [some (.inr (.inr (some x))), some (.inl (nI t)), some (.inl how)] [] := by
    intro hy
    obtain ⟨c0, q0, hc, hc2, hq, hq2⟩ := hat hy
    have fin : ∀ b : Bool, b = decide (how = nI 3) → V p l e (RM (d + 1) 0 0) s m args below meth c Y (GA G s.heap.size) (QM below args s (RM (d + 1) 0 0) Y G (fun r G' => r = none ∧ RR G' x ra (markM M t how))) 101 G' 0 0 [some (.inr (.inr (some x))), some (.inl (nI t)), some (.inl how)] [.inl (bI b), .inl (nI t), .inr (.inr (some (ra 26)))] := by
      intro b hb
      have R7 := R6.st 26 t (bI b) (by decide) rfl
      refine b_X9_mark_101.go C ⟨bI_z b, _, _, R6.2.1 26 (by decide) rfl, t, rfl, hlt, lb rfl, trivial, ?_⟩
      refine k_X9_mark_104.go C X (r_leave d _ x ra _ t c0 q0 R7 ht (by rw [eA]; exact hc) hc2 (by rw [eA]; exact hq) hq2) (rest := []) rfl rfl rfl (fun _ => ⟨x, 9, _, rfl, R7.1, by decide⟩) (Nat.zero_le _) (Rq.of (Nat.le_refl _) (by decide) (Nat.le_refl _) (Nat.le_refl _)) ?_
      rintro r G'' ⟨rfl, R8⟩
      exact V_vret C X d_X9_mark_107 (Nat.zero_le _) (Nat.zero_le _) ⟨rfl, by rw [markM, hy, if_pos rfl, ← hb]; exact R8⟩
    refine b_X9_mark_86.go C ⟨_, R6.1, fun h3 => ⟨trivial, ?_⟩, fun h3 => ⟨trivial, ?_⟩⟩
    · refine b_X9_mark_100.go C ⟨trivial, ?_⟩
      exact fin false (decide_eq_false h3).symm
    · refine b_X9_mark_96.go C ⟨trivial, ?_⟩
      exact fin true (decide_eq_true h3).symm
  refine b_X9_mark_66.go C ⟨_, R6.1, _, _, R6.2.1 19 (by decide) rfl, t, rfl, hlt, lb rfl, _, m19, fun h2 => ⟨trivial, ?_⟩, fun h2 => ⟨trivial, ?_⟩⟩
  · exact last (decide_eq_true ⟨h1', Or.inl h2⟩)
  · refine b_X9_mark_76.go C ⟨_, R6.1, _, _, R6.2.1 19 (by decide) rfl, t, rfl, hlt, lb rfl, _, m19, fun h3 => ⟨trivial, ?_⟩, fun h3 => ⟨trivial, ?_⟩⟩
    · have hn : atC M t = false := decide_eq_false (fun h => h.2.elim h2 h3)
      exact V_vret C X d_X9_mark_107 (Nat.zero_le _) (Nat.zero_le _) ⟨rfl, by rw [markM, hn]; exact R6⟩
    · exact last (decide_eq_true ⟨h1', Or.inr h3⟩)
def wvM (M : MS) (s : Nat) (v : Int32) : MS := markM (up2 M 11 s v) s (nI 1)
def wfM (M : MS) (s : Nat) (f : Int32) : MS := markM (up2 M 12 s f) s (nI 2)
def asM (M : MS) (s t : Nat) : MS := markM (up2 (up2 M 11 s (M 11 t)) 12 s (M 12 t)) s (M 8 t)
theorem markOk_up {M : MS} {s k i : Nat} {v : Int32} (h : markOk M s) (hk : k ≠ 16 ∧ k ≠ 53 ∧ k ≠ 25 ∧ k ≠ 47 ∧ k ≠ 2 ∧ k ≠ 19) : markOk (up2 M k i v) s := by
  obtain ⟨h1, h2, h3, h4⟩ := h
  refine ⟨h1, ?_, ?_, ?_⟩
  · rw [up2_f hk.1.symm]; exact h2
  · rw [up2_f hk.2.1.symm]; exact h3
  · rw [up2_f hk.2.2.1.symm, up2_f hk.2.2.2.1.symm]
    unfold atC at h4 ⊢
    rw [up2_f hk.2.2.2.2.1.symm, up2_f hk.2.2.2.2.2.symm]; exact h4
theorem r_withValue (d : Nat) (G : GH) (x : Nat) (ra : Nat → Nat) (M : MS) (t : Nat) (v : Int32) (hR : RR G x ra M) (ok : markOk M t) : Cd l yX9_withValue cX9_withValue 3 none (d + 2) 0 0 Y [.inr (.inr (some x)), .inl (nI t), .inl v] G (fun r G' => r = none ∧ RR G' x ra (wvM M t v)) := by
  refine Ct.of (ini := False) (by decide +kernel) False.elim rfl (Nat.le_of_ble_eq_true rfl) ?_
  intro p e s m args below meth c C X
  have hlt : t < 201 := by have := ok.1; omega
  have R1 := hR.st 11 t v (by decide) rfl
  refine b_X9_withValue_0.go C ⟨_, hR.1, _, _, hR.2.1 11 (by decide) rfl, t, rfl, hlt, lb rfl, trivial, ?_⟩
  refine k_X9_withValue_10.go C X (r_mark d _ x ra _ t (nI 1) R1 (markOk_up ok (by decide))) (rest := []) rfl rfl rfl (fun _ => ⟨x, 9, _, rfl, R1.1, by decide⟩) (Nat.zero_le _) (Rq.of (Nat.le_refl _) (by decide) (Nat.le_refl _) (Nat.le_refl _)) ?_
  rintro r G' ⟨rfl, R2⟩
  exact V_vret C X d_X9_withValue_13 (Nat.zero_le _) (Nat.zero_le _) ⟨rfl, R2⟩
theorem r_withFailure (d : Nat) (G : GH) (x : Nat) (ra : Nat → Nat) (M : MS) (t : Nat) (f : Int32) (hR : RR G x ra M) (ok : markOk M t) : Cd l yX9_withFailure cX9_withFailure 3 none (d + 2) 0 0 Y [.inr (.inr (some x)), .inl (nI t), .inl f] G (fun r G' => r = none ∧ RR G' x ra (wfM M t f)) := by
  refine Ct.of (ini := False) (by decide +kernel) False.elim rfl (Nat.le_of_ble_eq_true rfl) ?_
  intro p e s m args below meth c C X
  have hlt : t < 201 := by have := ok.1; omega
  have R1 := hR.st 12 t f (by decide) rfl
  refine b_X9_withFailure_0.go C ⟨_, hR.1, _, _, hR.2.1 12 (by decide) rfl, t, rfl, hlt, lb rfl, trivial, ?_⟩
  refine k_X9_withFailure_10.go C X (r_mark d _ x ra _ t (nI 2) R1 (markOk_up ok (by decide))) (rest := []) rfl rfl rfl (fun _ => ⟨x, 9, _, rfl, R1.1, by decide⟩) (Nat.zero_le _) (Rq.of (Nat.le_refl _) (by decide) (Nat.le_refl _) (Nat.le_refl _)) ?_
  rintro r G' ⟨rfl, R2⟩
  exact V_vret C X d_X9_withFailure_13 (Nat.zero_le _) (Nat.zero_le _) ⟨rfl, R2⟩
theorem r_as (d : Nat) (G : GH) (x : Nat) (ra : Nat → Nat) (M : MS) (t u : Nat) (hR : RR G x ra M) (ok : markOk M t) (hu : u ≤ 200) : Cd l yX9_as cX9_as 3 none (d + 2) 0 0 Y [.inr (.inr (some x)), .inl (nI t), .inl (nI u)] G (fun r G' => r = none ∧ RR G' x ra (asM M t u)) := by
  refine Ct.of (ini := False) (by decide +kernel) False.elim rfl (Nat.le_of_ble_eq_true rfl) ?_
  intro p e s m args below meth c C X
  have hlt : t < 201 := by have := ok.1; omega
  have hlu : u < 201 := by omega
  have R1 := hR.st 11 t (M 11 u) (by decide) rfl
  have R2 := R1.st 12 t (M 12 u) (by decide) rfl
  refine b_X9_as_0.go C ⟨_, hR.1, _, hR.1, _, _, hR.2.1 11 (by decide) rfl, u, rfl, hlu, lb rfl, _, rfl, _, _, hR.2.1 11 (by decide) rfl, t, rfl, hlt, lb rfl, _, R1.1, _, R1.1, _, _, R1.2.1 12 (by decide) rfl, u, rfl, hlu, lb rfl, M 12 u, rfl, _, _, R1.2.1 12 (by decide) rfl, t, rfl, hlt, lb rfl, _, R2.1, _, _, R2.2.1 8 (by decide) rfl, u, rfl, hlu, lb rfl, M 8 u, rfl, trivial, ?_⟩
  refine k_X9_as_32.go C X (r_mark d _ x ra _ t (M 8 u) R2 (markOk_up (markOk_up ok (by decide)) (by decide))) (rest := []) rfl rfl rfl (fun _ => ⟨x, 9, _, rfl, R2.1, by decide⟩) (Nat.zero_le _) (Rq.of (Nat.le_refl _) (by decide) (Nat.le_refl _) (Nat.le_refl _)) ?_
  rintro r G' ⟨rfl, R3⟩
  exact V_vret C X d_X9_as_35 (Nat.zero_le _) (Nat.zero_le _) ⟨rfl, R3⟩
end REFE
