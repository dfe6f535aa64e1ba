/-! the reference: both, onFailure, always -/
section REFH
variable {l : Launch} {Y : YT}
def bothM (M : MS) (t s o : Nat) : MS :=
  if ¬ fstN M t false = 0 then asM M t (fstN M t false) else if M 8 s = 0 ∨ M 8 o = 0 then M else
    pick4 (nN M 5 t) (wvM M t (M 11 s + M 11 o)) (wvM M t (M 11 s - M 11 o)) (wvM M t (if M 11 s ≤ M 11 o then M 11 o else M 11 s)) (wvM M t (if M 11 o ≤ M 11 s then M 11 o else M 11 s)) (wvM M t (M 11 s * M 11 o))
theorem fstN_le {M : MS} {t : Nat} {wh : Bool} (h : inOk M t) : fstN M t wh ≤ 200 := fstF_le h _ _ _ (by omega) (by omega)
set_option maxHeartbeats 1000000 in
theorem r_askBoth (d : Nat) (G : GH) (x : Nat) (ra : Nat → Nat) (M : MS) (t u o k : Nat) (hR : RR G x ra M) (mk : markOk M t) (hI : inOk M t) (hu : u ≤ 200) (ho : o ≤ 200) (hk : M 5 t = nI k) (hk2 : k ≤ 4) : Cd l yX9_askBoth cX9_askBoth 7 none (d + 3) 0 0 Y [.inr (.inr (some x)), .inl (nI t), .inl (nI u), .inl (nI o)] G (fun r G' => r = none ∧ RR G' x ra (bothM M t u o)) := by
  refine Ct.of (ini := False) (by decide +kernel) False.elim rfl (Nat.le_of_ble_eq_true rfl) ?_
  intro p e s m args below meth c C X
  have hlt : t < 201 := by have := mk.1; omega
  have hlu : u < 201 := by omega
  have hlo : o < 201 := by omega
  have ek : nN M 5 t = k := nN_of hk (by omega)
  have hfl := fstN_le (wh := false) hI
  refine b_X9_askBoth_0.go C ⟨trivial, ?_⟩
  refine k_X9_askBoth_3.go C X (r_firstOf d G x ra M t false hR hI) (rest := []) rfl rfl rfl (fun _ => ⟨x, 9, _, rfl, hR.1, by decide⟩) (Nat.zero_le _) (Rq.of (by omega) (by decide) (Nat.le_refl _) (Nat.le_refl _)) ?_
  rintro r G' ⟨rfl, rfl⟩
  refine b_X9_askBoth_6.go C ⟨fun h1 => ⟨trivial, ?_⟩, fun h1 => ⟨trivial, ?_⟩⟩
  rotate_left
  · refine b_X9_askBoth_13.go C ⟨trivial, ?_⟩
    refine k_X9_askBoth_17.go C X (r_as d _ x ra M t _ hR mk hfl) (rest := []) rfl rfl rfl (fun _ => ⟨x, 9, _, rfl, hR.1, by decide⟩) (Nat.zero_le _) (Rq.of (Nat.le_refl _) (by decide) (Nat.le_refl _) (Nat.le_refl _)) ?_
    rintro r G'' ⟨rfl, R1⟩
    exact V_vret C X d_X9_askBoth_20 (Nat.zero_le _) (Nat.zero_le _) ⟨rfl, by rw [bothM, if_pos (fun h => h1 (by rw [h]; exact nI_0))]; exact R1⟩
  have hz : fstN M t false = 0 := (nI_eq (by omega) (by omega)).mp (h1.trans nI_0.symm)
  have stay : (M 8 u = 0 ∨ M 8 o = 0) → bothM M t u o = M := fun h => by rw [bothM, if_neg (fun q => q hz), if_pos h]
  refine b_X9_askBoth_21.go C ⟨_, hR.1, _, _, hR.2.1 8 (by decide) rfl, u, rfl, hlu, lb rfl, _, rfl, fun h2 => ⟨trivial, ?_⟩, fun h2 => ⟨trivial, ?_⟩⟩
  · exact V_vret C X d_X9_askBoth_39 (Nat.zero_le _) (Nat.zero_le _) ⟨rfl, by rw [stay (Or.inl h2)]; exact hR⟩
  refine b_X9_askBoth_30.go C ⟨_, hR.1, _, _, hR.2.1 8 (by decide) rfl, o, rfl, hlo, lb rfl, _, rfl, fun h3 => ⟨trivial, ?_⟩, fun h3 => ⟨trivial, ?_⟩⟩
  rotate_left
  · exact V_vret C X d_X9_askBoth_39 (Nat.zero_le _) (Nat.zero_le _) ⟨rfl, by rw [stay (Or.inr h3)]; exact hR⟩
  have e1 : bothM M t u o = pick4 k (wvM M t (M 11 u + M 11 o)) (wvM M t (M 11 u - M 11 o)) (wvM M t (if M 11 u ≤ M 11 o then M 11 o else M 11 u)) (wvM M t (if M 11 o ≤ M 11 u then M 11 o else M 11 u)) (wvM M t (M 11 u * M 11 o)) := by
    rw [bothM, if_neg (fun q => q hz), if_neg (fun h => h.elim h2 h3), ek]
  refine b_X9_askBoth_40.go C ⟨_, hR.1, _, _, hR.2.1 11 (by decide) rfl, u, rfl, hlu, lb rfl, _, rfl, _, hR.1, _, _, hR.2.1 11 (by decide) rfl, o, rfl, hlo, lb rfl, _, rfl, _, hR.1, _, _, hR.2.1 5 (by decide) rfl, t, rfl, hlt, lb rfl, _, hk, fun h4 => ⟨trivial, ?_⟩, fun j tgt h4 h5 => ?_⟩
  · obtain rfl : k = 4 := by
      rw [nI_toInt (by omega)] at h4
      omega
    refine b_X9_askBoth_162.go C ⟨_, rfl, trivial, ?_⟩
    refine k_X9_askBoth_169.go C X (r_withValue d _ x ra M t _ hR mk) (rest := []) rfl rfl rfl (fun _ => ⟨x, 9, _, rfl, hR.1, by decide⟩) (Nat.zero_le _) (Rq.of (Nat.le_refl _) (by decide) (Nat.le_refl _) (Nat.le_refl _)) ?_
    rintro r G'' ⟨rfl, R1⟩
    exact V_vret C X d_X9_askBoth_172 (Nat.zero_le _) (Nat.zero_le _) ⟨rfl, by rw [e1]; exact R1⟩
  · obtain rfl := tab_at (by omega) h4
    match j, h5 with
    | 0, h5 =>
      cases h5
      refine ⟨trivial, b_X9_askBoth_92.go C ⟨_, rfl, trivial, ?_⟩⟩
      refine k_X9_askBoth_99.go C X (r_withValue d _ x ra M t _ hR mk) (rest := []) rfl rfl rfl (fun _ => ⟨x, 9, _, rfl, hR.1, by decide⟩) (Nat.zero_le _) (Rq.of (Nat.le_refl _) (by decide) (Nat.le_refl _) (Nat.le_refl _)) ?_
      rintro r G'' ⟨rfl, R1⟩
      refine b_X9_askBoth_102.go C ⟨trivial, ?_⟩
      exact V_vret C X d_X9_askBoth_172 (Nat.zero_le _) (Nat.zero_le _) ⟨rfl, by rw [e1]; exact R1⟩
    | 1, h5 =>
      cases h5
      refine ⟨trivial, b_X9_askBoth_105.go C ⟨_, rfl, trivial, ?_⟩⟩
      refine k_X9_askBoth_112.go C X (r_withValue d _ x ra M t _ hR mk) (rest := []) rfl rfl rfl (fun _ => ⟨x, 9, _, rfl, hR.1, by decide⟩) (Nat.zero_le _) (Rq.of (Nat.le_refl _) (by decide) (Nat.le_refl _) (Nat.le_refl _)) ?_
      rintro r G'' ⟨rfl, R1⟩
      refine b_X9_askBoth_115.go C ⟨trivial, ?_⟩
      exact V_vret C X d_X9_askBoth_172 (Nat.zero_le _) (Nat.zero_le _) ⟨rfl, by rw [e1]; exact R1⟩
    | 2, h5 =>
      cases h5
      refine ⟨trivial, b_X9_askBoth_118.go C ⟨fun h6 => ⟨trivial, ?_⟩, fun h6 => ⟨trivial, ?_⟩⟩⟩
      · refine b_X9_askBoth_132.go C ⟨trivial, ?_⟩
        refine k_X9_askBoth_134.go C X (r_withValue d _ x ra M t _ hR mk) (rest := []) rfl rfl rfl (fun _ => ⟨x, 9, _, rfl, hR.1, by decide⟩) (Nat.zero_le _) (Rq.of (Nat.le_refl _) (by decide) (Nat.le_refl _) (Nat.le_refl _)) ?_
        rintro r G'' ⟨rfl, R1⟩
        refine b_X9_askBoth_137.go C ⟨trivial, ?_⟩
        exact V_vret C X d_X9_askBoth_172 (Nat.zero_le _) (Nat.zero_le _) ⟨rfl, by rw [e1]; simp only [pick4, if_pos h6]; exact R1⟩
      · refine b_X9_askBoth_127.go C ⟨trivial, ?_⟩
        refine k_X9_askBoth_134.go C X (r_withValue d _ x ra M t _ hR mk) (rest := []) rfl rfl rfl (fun _ => ⟨x, 9, _, rfl, hR.1, by decide⟩) (Nat.zero_le _) (Rq.of (Nat.le_refl _) (by decide) (Nat.le_refl _) (Nat.le_refl _)) ?_
        rintro r G'' ⟨rfl, R1⟩
        refine b_X9_askBoth_137.go C ⟨trivial, ?_⟩
        exact V_vret C X d_X9_askBoth_172 (Nat.zero_le _) (Nat.zero_le _) ⟨rfl, by rw [e1]; simp only [pick4, if_neg h6]; exact R1⟩
    | 3, h5 =>
      cases h5
      refine ⟨trivial, b_X9_askBoth_140.go C ⟨fun h6 => ⟨trivial, ?_⟩, fun h6 => ⟨trivial, ?_⟩⟩⟩
      · refine b_X9_askBoth_154.go C ⟨trivial, ?_⟩
        refine k_X9_askBoth_156.go C X (r_withValue d _ x ra M t _ hR mk) (rest := []) rfl rfl rfl (fun _ => ⟨x, 9, _, rfl, hR.1, by decide⟩) (Nat.zero_le _) (Rq.of (Nat.le_refl _) (by decide) (Nat.le_refl _) (Nat.le_refl _)) ?_
        rintro r G'' ⟨rfl, R1⟩
        refine b_X9_askBoth_159.go C ⟨trivial, ?_⟩
        exact V_vret C X d_X9_askBoth_172 (Nat.zero_le _) (Nat.zero_le _) ⟨rfl, by rw [e1]; simp only [pick4, if_pos h6]; exact R1⟩
      · refine b_X9_askBoth_149.go C ⟨trivial, ?_⟩
        refine k_X9_askBoth_156.go C X (r_withValue d _ x ra M t _ hR mk) (rest := []) rfl rfl rfl (fun _ => ⟨x, 9, _, rfl, hR.1, by decide⟩) (Nat.zero_le _) (Rq.of (Nat.le_refl _) (by decide) (Nat.le_refl _) (Nat.le_refl _)) ?_
        rintro r G'' ⟨rfl, R1⟩
        refine b_X9_askBoth_159.go C ⟨trivial, ?_⟩
        exact V_vret C X d_X9_askBoth_172 (Nat.zero_le _) (Nat.zero_le _) ⟨rfl, by rw [e1]; simp only [pick4, if_neg h6]; exact R1⟩
    | j + 4, h5 => simp at h5
def onfB (M : MS) (t s : Nat) : Bool := decide (M 8 s = nI 2) && und (nN M 33 (nN M 12 s)) (nN M 5 t)
def onfM (M : MS) (t s o : Nat) : MS :=
  if M 8 s = 0 then M else if onfB M t s = false then asM M t s else if M 8 o = 0 then M else asM M t o
/-- what a stage's failure is, where it failed -/
def flOk (M : MS) (s : Nat) : Prop := M 8 s = nI 2 → M 12 s = nI (nN M 12 s) ∧ nN M 12 s < 2000 ∧ M 33 (nN M 12 s) = nI (nN M 33 (nN M 12 s)) ∧ nN M 33 (nN M 12 s) ≤ 15
set_option maxHeartbeats 1000000 in
theorem r_askOnFailure (d : Nat) (G : GH) (x : Nat) (ra : Nat → Nat) (M : MS) (t u o k : Nat) (hR : RR G x ra M) (mk : markOk M t) (h3 : M 3 (24 * t) = nI u) (hu : u ≤ 200) (h7 : M 7 t = nI o) (ho : o ≤ 200) (hk : M 5 t = nI k) (hk2 : k ≤ 15) (hfl : flOk M u) : Cd l yX9_askOnFailure cX9_askOnFailure 5 none (d + 3) 0 0 Y [.inr (.inr (some x)), .inl (nI t)] G (fun r G' => r = none ∧ RR G' x ra (onfM M t u o)) := by
  refine Ct.of (ini := False) (by decide +kernel) False.elim rfl (Nat.le_of_ble_eq_true rfl) ?_
  intro p e s m args below meth c C X
  have hlt : t < 201 := by have := mk.1; omega
  have hl3 : 24 * t < 4824 := by omega
  have hlu : u < 201 := by omega
  have hlo : o < 201 := by omega
  have ek : nN M 5 t = k := nN_of hk (by omega)
  have rest : ∀ b : Bool, b = onfB M t u → V p l e (RM (d + 3) 0 0) s m args below meth c Y (GA G s.heap.size) (QM below args s (RM (d + 3) 0 0) Y G (fun r G' => r = none ∧ RR G' x ra (onfM M t u o))) 55 G 0 0 [some (.inr (.inr (some x))), some (.inl (nI t)), some (.inl (nI u)), some (.inl (nI o)), none] [.inl (bI b)] := by
    intro b hb
    have second : (M 8 u = 0 ∨ b = true) → V p l e (RM (d + 3) 0 0) s m args below meth c Y (GA G s.heap.size) (QM below args s (RM (d + 3) 0 0) Y G (fun r G' => r = none ∧ RR G' x ra (onfM M t u o))) 80 G 0 0 [some (.inr (.inr (some x))), some (.inl (nI t)), some (.inl (nI u)), some (.inl (nI o)), some (.inl (bI b))] [] := by
      intro hor
      refine b_X9_askOnFailure_80.go C ⟨fun h1 => ⟨trivial, ?_⟩, fun h1 => ⟨trivial, ?_⟩⟩
      · have hbf := bI_0 h1
        have h0 : M 8 u = 0 := hor.elim id (fun z => by rw [hbf] at z; cases z)
        exact V_vret C X d_X9_askOnFailure_100 (Nat.zero_le _) (Nat.zero_le _) ⟨rfl, by rw [onfM, if_pos h0]; exact hR⟩
      · have hbt := bI_1 h1
        have h8 : M 8 u = nI 2 := by
          have := hb.symm.trans hbt
          rw [onfB, Bool.and_eq_true] at this
          exact of_decide_eq_true this.1
        have h0 : ¬ M 8 u = 0 := by rw [h8]; decide +kernel
        refine b_X9_askOnFailure_85.go C ⟨_, hR.1, _, _, hR.2.1 8 (by decide) rfl, o, rfl, hlo, lb rfl, _, rfl, fun h2 => ⟨trivial, ?_⟩, fun h2 => ⟨trivial, ?_⟩⟩
        · exact V_vret C X d_X9_askOnFailure_100 (Nat.zero_le _) (Nat.zero_le _) ⟨rfl, by rw [onfM, if_neg h0, ← hb, hbt, if_neg (by decide), if_pos h2]; exact hR⟩
        · refine b_X9_askOnFailure_94.go C ⟨trivial, ?_⟩
          refine k_X9_askOnFailure_97.go C X (r_as d _ x ra M t o hR mk ho) (rest := []) rfl rfl rfl (fun _ => ⟨x, 9, _, rfl, hR.1, by decide⟩) (Nat.zero_le _) (Rq.of (Nat.le_refl _) (by decide) (Nat.le_refl _) (Nat.le_refl _)) ?_
          rintro r G' ⟨rfl, R1⟩
          exact V_vret C X d_X9_askOnFailure_100 (Nat.zero_le _) (Nat.zero_le _) ⟨rfl, by rw [onfM, if_neg h0, ← hb, hbt, if_neg (by decide), if_neg h2]; exact R1⟩
    refine b_X9_askOnFailure_55.go C ⟨_, hR.1, _, _, hR.2.1 8 (by decide) rfl, u, rfl, hlu, lb rfl, _, rfl, fun h1 => ⟨trivial, ?_⟩, fun h1 => ⟨trivial, ?_⟩⟩
    · exact second (Or.inl h1)
    · refine b_X9_askOnFailure_66.go C ⟨fun h2 => ⟨trivial, ?_⟩, fun h2 => ⟨trivial, ?_⟩⟩
      · exact second (Or.inr (bI_1 h2))
      · refine b_X9_askOnFailure_71.go C ⟨trivial, ?_⟩
        refine k_X9_askOnFailure_74.go C X (r_as d _ x ra M t u hR mk hu) (rest := []) rfl rfl rfl (fun _ => ⟨x, 9, _, rfl, hR.1, by decide⟩) (Nat.zero_le _) (Rq.of (Nat.le_refl _) (by decide) (Nat.le_refl _) (Nat.le_refl _)) ?_
        rintro r G' ⟨rfl, R1⟩
        refine b_X9_askOnFailure_77.go C ⟨trivial, ?_⟩
        exact V_vret C X d_X9_askOnFailure_100 (Nat.zero_le _) (Nat.zero_le _) ⟨rfl, by rw [onfM, if_neg h1, ← hb, if_pos (bI_0 h2)]; exact R1⟩
  refine b_X9_askOnFailure_0.go C ⟨_, hR.1, _, pk_mul 24 t, _, _, hR.2.1 3 (by decide) rfl, 24 * t, rfl, hl3, lb rfl, _, h3, _, hR.1, _, _, hR.2.1 7 (by decide) rfl, t, rfl, hlt, lb rfl, _, h7, _, hR.1, _, _, hR.2.1 8 (by decide) rfl, u, rfl, hlu, lb rfl, _, rfl, fun h1 => ⟨trivial, ?_⟩, fun h1 => ⟨trivial, ?_⟩⟩
  · refine b_X9_askOnFailure_54.go C ⟨trivial, ?_⟩
    exact rest false (by rw [onfB, decide_eq_false h1, Bool.false_and])
  · obtain ⟨g1, g2, g3, g4⟩ := hfl h1
    refine b_X9_askOnFailure_27.go C ⟨_, hR.1, _, hR.1, _, _, hR.2.1 12 (by decide) rfl, u, rfl, hlu, lb rfl, _, g1, _, _, hR.2.1 33 (by decide) rfl, _, rfl, g2, lb rfl, _, g3, _, hR.1, _, _, hR.2.1 5 (by decide) rfl, t, rfl, hlt, lb rfl, _, hk, trivial, ?_⟩
    refine k_X9_askOnFailure_44.go C X (r_isUnder d G _ k g4 hk2) (rest := []) rfl rfl rfl (fun h => absurd rfl h) (Nat.zero_le _) (Rq.of (by omega) (by decide) (Nat.le_refl _) (Nat.le_refl _)) ?_
    rintro r G' ⟨rfl, rfl⟩
    refine b_X9_askOnFailure_47.go C ⟨fun h2 => ⟨trivial, ?_⟩, fun h2 => ⟨trivial, ?_⟩⟩
    · refine b_X9_askOnFailure_54.go C ⟨trivial, ?_⟩
      exact rest false (by rw [onfB, ek, bI_0 h2, Bool.and_false])
    · refine b_X9_askOnFailure_50.go C ⟨trivial, ?_⟩
      exact rest true (by rw [onfB, ek, bI_1 h2, decide_eq_true h1]; rfl)
end REFH
