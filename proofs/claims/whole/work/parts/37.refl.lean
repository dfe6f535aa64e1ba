/-! the reference: asked -/
section REFL
variable {l : Launch} {Y : YT}
def askF (M : MS) (t : Nat) : Nat → MS
  | 1 => thenM M t (iN M t 0)
  | 2 => bothM M t (iN M t 0) (iN M t (kI M t - 1))
  | 3 => asM M t (fstN M t true)
  | 4 => allM M t
  | 5 => anyM M t
  | 6 => onfM M t (iN M t 0) (nN M 7 t)
  | 7 => alwM M t (iN M t 0) (nN M 7 t)
  | 8 => asM M t (iN M t 0)
  | 12 => becM M t
  | _ => M
def askedM (M : MS) (t : Nat) : MS := askF M t (nN M 2 t)
/-- what asking the stage t asks of M -/
def askP (M : MS) (t : Nat) : Prop := askOk M t ∧ (inOk M t ∧ 1 ≤ kI M t) ∧
  (∃ e0 a, M 16 0 = nI e0 ∧ e0 ≤ 200 ∧ M 40 0 = nI a ∧ a + 201 < 8000 ∧ (∀ p, 1 ≤ p → p ≤ e0 → M 15 p = nI (nN M 15 p) ∧ nN M 15 p ≤ 200 ∧ ∃ pl, M 10 (nN M 15 p) = nI pl ∧ pl ≤ e0) ∧ ∃ pl, M 10 0 = nI pl ∧ pl ≤ e0) ∧
  (M 2 t = nI (nN M 2 t) ∧ nN M 2 t ≤ 12) ∧ (M 5 t = nI (nN M 5 t) ∧ nN M 5 t ≤ 15 ∧ (nN M 2 t ≤ 2 → nN M 5 t ≤ 4)) ∧
  (M 7 t = nI (nN M 7 t) ∧ nN M 7 t ≤ 200 ∧ (nN M 2 t = 5 → nN M 7 t ≤ kI M t)) ∧ (∀ s, s ≤ 200 → flOk M s)
set_option maxHeartbeats 2000000 in
theorem r_asked (d : Nat) (G : GH) (x : Nat) (ra : Nat → Nat) (M : MS) (t : Nat) (hR : RR G x ra M) (hA : askP M t) : Cd l yX9_asked cX9_asked 3 none (d + 5) 0 0 Y [.inr (.inr (some x)), .inl (nI t)] G (fun r G' => r = none ∧ RR G' x ra (askedM M t)) := by
  obtain ⟨ok, ⟨hI, hk1⟩, ⟨e0, a, he, he2, ha, ha2, hE, h0⟩, ⟨h2, h22⟩, ⟨h5, h52, h53⟩, ⟨h7, h72, h73⟩, hfl⟩ := hA
  have mk := ok.1
  obtain ⟨f, hf, hf2⟩ := ok.2.1
  have ef : nN M 38 0 = f := nN_of hf (by omega)
  obtain ⟨-, hk, hk2, hj9⟩ := id hI
  obtain ⟨hi, hi1, hi2⟩ := hj9 0 (by omega)
  have hi' : M 3 (24 * t) = nI (iN M t 0) := hi
  refine Ct.of (ini := False) (by decide +kernel) False.elim rfl (Nat.le_of_ble_eq_true rfl) ?_
  intro p e s m args below meth c C X
  have hlt : t < 201 := by have := mk.1; omega
  have hl3 : 24 * t < 4824 := by omega
  refine b_X9_asked_0.go C ⟨_, hR.1, _, pk_mul 24 t, _, _, hR.2.1 3 (by decide) rfl, 24 * t, rfl, hl3, lb rfl, _, hi', _, hR.1, _, _, hR.2.1 2 (by decide) rfl, t, rfl, hlt, lb rfl, _, h2, fun q1 => ⟨trivial, ?_⟩, fun j tgt q1 q2 => ?_⟩
  · have hz : nN M 2 t = 0 := by rw [nI_toInt (by omega)] at q1; omega
    exact V_vret C X d_X9_asked_179 (Nat.zero_le _) (Nat.zero_le _) ⟨rfl, by rw [askedM, hz]; exact hR⟩
  · have hs : nN M 2 t = j + 1 := by rw [nI_toInt (by omega)] at q1; omega
    have hret : ∀ G' : GH, RR G' x ra (askedM M t) → V p l e (RM (d + 5) 0 0) s m args below meth c Y (GA G s.heap.size) (QM below args s (RM (d + 5) 0 0) Y G (fun r G' => r = none ∧ RR G' x ra (askedM M t))) 179 G' 0 0 [some (.inr (.inr (some x))), some (.inl (nI t)), some (.inl (nI (iN M t 0)))] [] := fun G' R1 => V_vret C X d_X9_asked_179 (Nat.zero_le _) (Nat.zero_le _) ⟨rfl, R1⟩
    have ea : ∀ k, nN M 2 t = k → askedM M t = askF M t k := fun k h => by rw [askedM, h]
    match j, q2 with
    | 0, q2 =>
      cases q2
      refine ⟨trivial, b_X9_asked_80.go C ⟨trivial, ?_⟩⟩
      refine k_X9_asked_83.go C X (r_askThen (d + 1) _ x ra M t (iN M t 0) (nN M 5 t) hR ok hi2 h5 (h53 (by omega))) (rest := []) rfl rfl rfl (fun _ => ⟨x, 9, _, rfl, hR.1, by decide⟩) (Nat.zero_le _) (Rq.of (Nat.le_refl _) (by decide) (Nat.le_refl _) (Nat.le_refl _)) ?_
      rintro r G' ⟨rfl, R1⟩
      refine b_X9_asked_86.go C ⟨trivial, ?_⟩
      exact hret G' (by rw [ea 1 hs]; exact R1)
    | 1, q2 =>
      cases q2
      obtain ⟨hl, hl1, hl2⟩ := hj9 (kI M t - 1) (by omega)
      have hl' : M 3 (24 * t + kI M t - 1) = nI (iN M t (kI M t - 1)) := by rw [Nat.add_sub_assoc hk1]; exact hl
      refine ⟨trivial, b_X9_asked_89.go C ⟨_, hR.1, _, pk_mul 24 t, _, hR.1, _, _, hR.2.1 4 (by decide) rfl, t, rfl, hlt, lb rfl, _, hk, _, nI_add _ _, _, pk_sub (by omega), _, _, hR.2.1 3 (by decide) rfl, 24 * t + kI M t - 1, rfl, by show 24 * t + kI M t - 1 < 4824; omega, lb rfl, _, hl', trivial, ?_⟩⟩
      refine k_X9_asked_110.go C X (r_askBoth (d + 1) _ x ra M t (iN M t 0) (iN M t (kI M t - 1)) (nN M 5 t) hR mk hI hi2 hl2 h5 (h53 (by omega))) (rest := []) rfl rfl rfl (fun _ => ⟨x, 9, _, rfl, hR.1, by decide⟩) (Nat.zero_le _) (Rq.of (Nat.le_refl _) (by decide) (Nat.le_refl _) (Nat.le_refl _)) ?_
      rintro r G' ⟨rfl, R1⟩
      refine b_X9_asked_113.go C ⟨trivial, ?_⟩
      exact hret G' (by rw [ea 2 hs]; exact R1)
    | 2, q2 =>
      cases q2
      refine ⟨trivial, b_X9_asked_116.go C ⟨trivial, ?_⟩⟩
      refine k_X9_asked_121.go C X (r_firstOf d _ x ra M t true hR hI) (rest := [.inl (nI t), .inr (.inr (some x))]) rfl rfl rfl (fun _ => ⟨x, 9, _, rfl, hR.1, by decide⟩) (lb rfl) (Rq.of (by omega) (by decide) (Nat.le_refl _) (Nat.le_refl _)) ?_
      rintro r G' ⟨rfl, rfl⟩
      refine k_X9_asked_124.go C X (r_as (d + 2) _ x ra M t (fstN M t true) hR mk (fstN_le hI)) (rest := []) rfl rfl rfl (fun _ => ⟨x, 9, _, rfl, hR.1, by decide⟩) (Nat.zero_le _) (Rq.of (Nat.le_refl _) (by decide) (Nat.le_refl _) (Nat.le_refl _)) ?_
      rintro r G'' ⟨rfl, R1⟩
      refine b_X9_asked_127.go C ⟨trivial, ?_⟩
      exact hret G'' (by rw [ea 3 hs]; exact R1)
    | 3, q2 =>
      cases q2
      refine ⟨trivial, b_X9_asked_130.go C ⟨trivial, ?_⟩⟩
      refine k_X9_asked_132.go C X (r_askAll (d + 1) _ x ra M t hR mk hI) (rest := []) rfl rfl rfl (fun _ => ⟨x, 9, _, rfl, hR.1, by decide⟩) (Nat.zero_le _) (Rq.of (Nat.le_refl _) (by decide) (Nat.le_refl _) (Nat.le_refl _)) ?_
      rintro r G' ⟨rfl, R1⟩
      refine b_X9_asked_135.go C ⟨trivial, ?_⟩
      exact hret G' (by rw [ea 4 hs]; exact R1)
    | 4, q2 =>
      cases q2
      refine ⟨trivial, b_X9_asked_138.go C ⟨trivial, ?_⟩⟩
      refine k_X9_asked_140.go C X (r_askAny d _ x ra M t e0 (nN M 7 t) a hR mk hI he he2 h7 (h73 (by omega)) (by rw [ef]; exact hf) (by omega) ha ha2 hE h0) (rest := []) rfl rfl rfl (fun _ => ⟨x, 9, _, rfl, hR.1, by decide⟩) (Nat.zero_le _) (Rq.of (Nat.le_refl _) (by decide) (Nat.le_refl _) (Nat.le_refl _)) ?_
      rintro r G' ⟨rfl, R1⟩
      refine b_X9_asked_143.go C ⟨trivial, ?_⟩
      exact hret G' (by rw [ea 5 hs]; exact R1)
    | 5, q2 =>
      cases q2
      refine ⟨trivial, b_X9_asked_146.go C ⟨trivial, ?_⟩⟩
      refine k_X9_asked_148.go C X (r_askOnFailure (d + 1) _ x ra M t (iN M t 0) (nN M 7 t) (nN M 5 t) hR mk hi' hi2 h7 h72 h5 h52 (hfl _ hi2)) (rest := []) rfl rfl rfl (fun _ => ⟨x, 9, _, rfl, hR.1, by decide⟩) (Nat.zero_le _) (Rq.of (Nat.le_refl _) (by decide) (Nat.le_refl _) (Nat.le_refl _)) ?_
      rintro r G' ⟨rfl, R1⟩
      refine b_X9_asked_151.go C ⟨trivial, ?_⟩
      exact hret G' (by rw [ea 6 hs]; exact R1)
    | 6, q2 =>
      cases q2
      refine ⟨trivial, b_X9_asked_154.go C ⟨trivial, ?_⟩⟩
      refine k_X9_asked_156.go C X (r_askAlways (d + 1) _ x ra M t (iN M t 0) (nN M 7 t) hR ok hi' hi2 h7 h72 (hfl _ hi2)) (rest := []) rfl rfl rfl (fun _ => ⟨x, 9, _, rfl, hR.1, by decide⟩) (Nat.zero_le _) (Rq.of (Nat.le_refl _) (by decide) (Nat.le_refl _) (Nat.le_refl _)) ?_
      rintro r G' ⟨rfl, R1⟩
      refine b_X9_asked_159.go C ⟨trivial, ?_⟩
      exact hret G' (by rw [ea 7 hs]; exact R1)
    | 7, q2 =>
      cases q2
      refine ⟨trivial, b_X9_asked_162.go C ⟨trivial, ?_⟩⟩
      refine k_X9_asked_165.go C X (r_as (d + 2) _ x ra M t (iN M t 0) hR mk hi2) (rest := []) rfl rfl rfl (fun _ => ⟨x, 9, _, rfl, hR.1, by decide⟩) (Nat.zero_le _) (Rq.of (Nat.le_refl _) (by decide) (Nat.le_refl _) (Nat.le_refl _)) ?_
      rintro r G' ⟨rfl, R1⟩
      refine b_X9_asked_168.go C ⟨trivial, ?_⟩
      exact hret G' (by rw [ea 8 hs]; exact R1)
    | 8, q2 =>
      cases q2
      exact ⟨trivial, hret G (by rw [ea 9 hs]; exact hR)⟩
    | 9, q2 =>
      cases q2
      exact ⟨trivial, hret G (by rw [ea 10 hs]; exact hR)⟩
    | 10, q2 =>
      cases q2
      exact ⟨trivial, hret G (by rw [ea 11 hs]; exact hR)⟩
    | 11, q2 =>
      cases q2
      refine ⟨trivial, b_X9_asked_171.go C ⟨trivial, ?_⟩⟩
      refine k_X9_asked_173.go C X (r_becomes (d + 4) _ x ra M t hR mk.1) (rest := []) rfl rfl rfl (fun _ => ⟨x, 9, _, rfl, hR.1, by decide⟩) (Nat.zero_le _) (Rq.of (Nat.le_refl _) (by decide) (Nat.le_refl _) (Nat.le_refl _)) ?_
      rintro r G' ⟨rfl, R1⟩
      refine b_X9_asked_176.go C ⟨trivial, ?_⟩
      exact hret G' (by rw [ea 12 hs]; exact R1)
    | j + 12, q2 => simp at q2
end REFL
