/-! the reference: hang, idles -/
section REFQ
variable {l : Launch} {Y : YT}
def hgA (u : Nat) : Nat → Nat → MS → MS
  | 0, _, M => M
  | q + 1, t, M => hgA u q (t + 1) (up2 M 56 t (bI (decide (t = u))))
def hgI (t : Nat) : Nat → Nat → MS → MS
  | 0, _, M => M
  | q + 1, k, M => hgI t q (k + 1) (up2 M 56 (iN M t k) (nI 1))
def hgC : Nat → MS → MS
  | 0, M => M
  | t + 1, M => hgC t (if M 56 (t + 1) = 0 then M else hgI (t + 1) (kI M (t + 1)) 0 M)
/-- what u hangs on, in field 56 -/
def hangM (n : Nat) (M : MS) (u : Nat) : MS := hgC u (hgA u n 1 M)
theorem hgA_o (u : Nat) : ∀ (q t : Nat) (M : MS) (f : Nat), f ≠ 56 → hgA u q t M f = M f
  | 0, _, _, _, _ => rfl
  | q + 1, t, M, f, hf => by rw [hgA, hgA_o u q (t + 1) _ f hf, up2_f hf]
theorem hgI_o (t : Nat) : ∀ (q k : Nat) (M : MS) (f : Nat), f ≠ 56 → hgI t q k M f = M f
  | 0, _, _, _, _ => rfl
  | q + 1, k, M, f, hf => by rw [hgI, hgI_o t q (k + 1) _ f hf, up2_f hf]
theorem hgC_o : ∀ (t : Nat) (M : MS) (f : Nat), f ≠ 56 → hgC t M f = M f
  | 0, _, _, _ => rfl
  | t + 1, M, f, hf => by
    rw [hgC, hgC_o t _ f hf]
    split
    · rfl
    · rw [hgI_o (t + 1) _ _ _ f hf]
theorem hangM_o (n : Nat) (M : MS) (u f : Nat) (hf : f ≠ 56) : hangM n M u f = M f := by rw [hangM, hgC_o u _ f hf, hgA_o u _ _ _ f hf]
theorem zn {M : MS} {t : Nat} (h : M 56 t = nI 0 ∨ M 56 t = nI 1) : M 56 t = 0 ∨ M 56 t = 1 := h.elim (fun e => Or.inl (e.trans nI_0)) (fun e => Or.inr (e.trans (by decide +kernel)))
set_option maxHeartbeats 1000000 in
theorem r_hang (d : Nat) (G : GH) (x : Nat) (ra : Nat → Nat) (M : MS) (u n : Nat) (hR : RR G x ra M) (hn : M 1 0 = nI n) (hn2 : n ≤ 200) (hu : u ≤ n) (hI : ∀ t, t ≤ n → inOk M t ∧ ∀ j, j < kI M t → iN M t j < t) : Cd l yX9_hang cX9_hang 4 none d 0 0 Y [.inr (.inr (some x)), .inl (nI u)] G (fun r G' => r = none ∧ RR G' x ra (hangM n M u)) := by
  refine Ct.of (ini := False) (by decide +kernel) False.elim rfl (Nat.le_of_ble_eq_true rfl) ?_
  intro p e s m args below meth c C X
  have second : ∀ (t : Nat) (G1 : GH) (M1 : MS) (o3 : Option AV), t ≤ u → RR G1 x ra M1 → (∀ f, f ≠ 56 → M1 f = M f) → hangM n M u = hgC t M1 → V p l e (RM d 0 0) s m args below meth c Y (GA G s.heap.size) (QM below args s (RM d 0 0) Y G (fun r G' => r = none ∧ RR G' x ra (hangM n M u))) 34 G1 0 0 [some (.inr (.inr (some x))), some (.inl (nI u)), some (.inl (nI t)), o3] [] := by
    intro t
    induction t with
    | zero =>
      intro G1 M1 o3 ht R1 hM hs
      refine b_X9_hang_34.go C ⟨fun h1 => ⟨trivial, ?_⟩, fun h1 => absurd (nI_lt (by omega) (by omega)) h1⟩
      exact V_vret C X d_X9_hang_89 (Nat.zero_le _) (Nat.zero_le _) ⟨rfl, by rw [hs, hgC]; exact R1⟩
    | succ t ih =>
      intro G1 M1 o3 ht R1 hM hs
      obtain ⟨⟨ht2, hk, hk2, hj⟩, hj2⟩ := hI (t + 1) (by omega)
      have hlt : t + 1 < 201 := by omega
      have m3 : M1 3 = M 3 := hM 3 (by decide)
      have m4 : M1 4 = M 4 := hM 4 (by decide)
      have ek : kI M1 (t + 1) = kI M (t + 1) := by unfold kI; rw [m4]
      refine b_X9_hang_34.go C ⟨fun h1 => absurd h1 (nI_nlt (by omega) (by omega)), fun h1 => ⟨trivial, ?_⟩⟩
      refine b_X9_hang_39.go C ⟨trivial, ?_⟩
      have leave : ∀ (k : Nat) (G2 : GH) (M2 : MS), RR G2 x ra M2 → (∀ f, f ≠ 56 → M2 f = M f) → hangM n M u = hgC t M2 → V p l e (RM d 0 0) s m args below meth c Y (GA G s.heap.size) (QM below args s (RM d 0 0) Y G (fun r G' => r = none ∧ RR G' x ra (hangM n M u))) 83 G2 0 0 [some (.inr (.inr (some x))), some (.inl (nI u)), some (.inl (nI (t + 1))), some (.inl (nI k))] [] := by
        intro k G2 M2 R2 hM2 hs2
        refine b_X9_hang_83.go C ⟨_, pk_m1 t, trivial, ?_⟩
        exact ih G2 M2 _ (by omega) R2 hM2 hs2
      by_cases hz : M1 56 (t + 1) = 0
      · refine b_X9_hang_41.go C ⟨_, R1.1, _, _, R1.2.1 56 (by decide) rfl, t + 1, rfl, hlt, lb rfl, _, rfl, fun h2 => ⟨trivial, ?_⟩, fun h2 => absurd hz h2⟩
        exact leave 0 G1 M1 R1 hM (by rw [hs, hgC, if_pos hz])
      · refine (show ∀ (q k : Nat) (G2 : GH) (M2 : MS), k + q = kI M (t + 1) → RR G2 x ra M2 → (∀ f, f ≠ 56 → M2 f = M f) → ¬ M2 56 (t + 1) = 0 → hgI (t + 1) (kI M1 (t + 1)) 0 M1 = hgI (t + 1) q k M2 → V p l e _ s m args below meth c Y _ _ 41 G2 0 0 [some (.inr (.inr (some x))), some (.inl (nI u)), some (.inl (nI (t + 1))), some (.inl (nI k))] [] from ?_) (kI M (t + 1)) 0 G1 M1 (by omega) R1 hM hz (by rw [ek])
        intro q
        induction q with
        | zero =>
          intro k G2 M2 hk9 R2 hM2 hz2 hs2
          have h4 : M2 4 (t + 1) = nI (kI M (t + 1)) := by rw [hM2 4 (by decide)]; exact hk
          refine b_X9_hang_41.go C ⟨_, R2.1, _, _, R2.2.1 56 (by decide) rfl, t + 1, rfl, hlt, lb rfl, _, rfl, fun h2 => absurd h2 hz2, fun h2 => ⟨trivial, ?_⟩⟩
          refine b_X9_hang_50.go C ⟨_, R2.1, _, _, R2.2.1 4 (by decide) rfl, t + 1, rfl, hlt, lb rfl, _, h4, fun h3 => ⟨trivial, ?_⟩, fun h3 => absurd (nI_le (by omega) (by omega)) h3⟩
          exact leave k G2 M2 R2 hM2 (by rw [hs, hgC, if_neg hz, hs2, hgI])
        | succ q ihq =>
          intro k G2 M2 hk9 R2 hM2 hz2 hs2
          have h4 : M2 4 (t + 1) = nI (kI M (t + 1)) := by rw [hM2 4 (by decide)]; exact hk
          obtain ⟨hi, hi1, hi2⟩ := hj k (by omega)
          have hi3 := hj2 k (by omega)
          have h3' : M2 3 (24 * (t + 1) + k) = nI (iN M (t + 1) k) := by rw [hM2 3 (by decide)]; exact hi
          have ei : iN M2 (t + 1) k = iN M (t + 1) k := by unfold iN nN; rw [hM2 3 (by decide)]
          have R3 := R2.st 56 (iN M (t + 1) k) (nI 1) (by decide) rfl
          refine b_X9_hang_41.go C ⟨_, R2.1, _, _, R2.2.1 56 (by decide) rfl, t + 1, rfl, hlt, lb rfl, _, rfl, fun h2 => absurd h2 hz2, fun h2 => ⟨trivial, ?_⟩⟩
          refine b_X9_hang_50.go C ⟨_, R2.1, _, _, R2.2.1 4 (by decide) rfl, t + 1, rfl, hlt, lb rfl, _, h4, fun h3 => absurd ((nI_leI (by omega) (by omega)).mp h3) (by omega), fun h3 => ⟨trivial, ?_⟩⟩
          refine b_X9_hang_60.go C ⟨_, R2.1, _, R2.1, _, pk_mul 24 (t + 1), _, nI_add _ _, _, _, R2.2.1 3 (by decide) rfl, 24 * (t + 1) + k, rfl, by show 24 * (t + 1) + k < 4824; omega, lb rfl, _, h3', z1, _, _, R2.2.1 56 (by decide) rfl, iN M (t + 1) k, rfl, by show iN M (t + 1) k < 201; omega, lb rfl, _, nI_1 k, trivial, ?_⟩
          refine ihq (k + 1) _ _ (by omega) R3 (fun f hf => by rw [up2_f hf]; exact hM2 f hf) ?_ (by rw [hs2, hgI, ei])
          rw [up2_i (by omega)]; exact hz2
  refine b_X9_hang_0.go C ⟨trivial, ?_⟩
  refine (show ∀ (q t : Nat) (G1 : GH) (M1 : MS), t + q = n + 1 → RR G1 x ra M1 → (∀ f, f ≠ 56 → M1 f = M f) → hgA u n 1 M = hgA u q t M1 → V p l e _ s m args below meth c Y _ _ 2 G1 0 0 [some (.inr (.inr (some x))), some (.inl (nI u)), some (.inl (nI t)), none] [] from ?_) n 1 G M (by omega) hR (fun _ _ => rfl) rfl
  intro q
  induction q with
  | zero =>
    intro t G1 M1 ht R1 hM hs
    refine b_X9_hang_2.go C ⟨_, R1.1, fun h1 => ⟨trivial, ?_⟩, fun h1 => absurd (show M1 1 0 < nI t by rw [hM 1 (by decide), hn]; exact nI_lt (by omega) (by omega)) h1⟩
    refine b_X9_hang_32.go C ⟨trivial, ?_⟩
    exact second u G1 M1 _ (Nat.le_refl u) R1 hM (by rw [hangM, hs, hgA])
  | succ q ih =>
    intro t G1 M1 ht R1 hM hs
    have hlt : t < 201 := by omega
    have put : ∀ b : Bool, b = decide (t = u) → V p l e (RM d 0 0) s m args below meth c Y (GA G s.heap.size) (QM below args s (RM d 0 0) Y G (fun r G' => r = none ∧ RR G' x ra (hangM n M u))) 25 G1 0 0 [some (.inr (.inr (some x))), some (.inl (nI u)), some (.inl (nI t)), none] [.inl (bI b), .inl (nI t), .inr (.inr (some (ra 56)))] := by
      intro b hb
      refine b_X9_hang_25.go C ⟨bI_z b, _, _, R1.2.1 56 (by decide) rfl, t, rfl, hlt, lb rfl, _, nI_1 t, trivial, ?_⟩
      exact ih (t + 1) _ _ (by omega) (R1.st 56 t (bI b) (by decide) rfl) (fun f hf => by rw [up2_f hf]; exact hM f hf) (by rw [hs, hgA, ← hb])
    refine b_X9_hang_2.go C ⟨_, R1.1, fun h1 => absurd (show M1 1 0 < nI t from h1) (by rw [hM 1 (by decide), hn]; exact nI_nlt (by omega) (by omega)), fun h1 => ⟨trivial, ?_⟩⟩
    refine b_X9_hang_10.go C ⟨_, R1.1, fun h2 => ⟨trivial, ?_⟩, fun h2 => ⟨trivial, ?_⟩⟩
    · refine b_X9_hang_24.go C ⟨trivial, ?_⟩
      exact put false (decide_eq_false (fun h => h2 (by rw [h]))).symm
    · refine b_X9_hang_20.go C ⟨trivial, ?_⟩
      exact put true (decide_eq_true ((nI_eq (by omega) (by omega)).mp h2)).symm
/-- the cooks c .. c + q - 1 that stand idle -/
def idlF : Nat → Nat → MS → MS
  | 0, _, M => M
  | q + 1, c, M => idlF q (c + 1) (up2 M 49 c (if upN M c = 0 ∨ M 19 (upN M c).toNatClampNeg = nI 3 then M 49 c + nI 1 else M 49 c))
def idlM (k : Nat) (M : MS) : MS := idlF k 1 M
set_option maxHeartbeats 1000000 in
theorem r_idles (d : Nat) (G : GH) (x : Nat) (ra : Nat → Nat) (M : MS) (k : Nat) (hR : RR G x ra M) (hk : M 45 0 = nI k) (hk2 : k ≤ 12) (hq : ∀ c, c ≤ 12 → (∃ q, M 47 c = nI q ∧ q ≤ 200) ∧ ∃ y, y ≤ 200 ∧ upN M c = nI y) : Cd l yX9_idles cX9_idles 3 none (d + 1) 0 0 Y [.inr (.inr (some x))] G (fun r G' => r = none ∧ RR G' x ra (idlM k M)) := by
  refine Ct.of (ini := False) (by decide +kernel) False.elim rfl (Nat.le_of_ble_eq_true rfl) ?_
  intro p e s m args below meth c C X
  refine b_X9_idles_0.go C ⟨trivial, ?_⟩
  refine (show ∀ (q c0 : Nat) (G1 : GH) (M1 : MS) (o2 : Option AV), c0 + q = k + 1 → 1 ≤ c0 → RR G1 x ra M1 → (∀ f, f ≠ 49 → M1 f = M f) → idlM k M = idlF q c0 M1 → V p l e _ s m args below meth c Y _ _ 2 G1 0 0 [some (.inr (.inr (some x))), some (.inl (nI c0)), o2] [] from ?_) k 1 G M none (by omega) (Nat.le_refl 1) hR (fun _ _ => rfl) rfl
  intro q
  induction q with
  | zero =>
    intro c0 G1 M1 o2 hc h1 R1 hM hs
    refine b_X9_idles_2.go C ⟨_, R1.1, fun h1 => ⟨trivial, ?_⟩, fun h1 => absurd (show M1 45 0 < nI c0 by rw [hM 45 (by decide), hk]; exact nI_lt (by omega) (by omega)) h1⟩
    exact V_vret C X d_X9_idles_59 (Nat.zero_le _) (Nat.zero_le _) ⟨rfl, by rw [hs, idlF]; exact R1⟩
  | succ q ih =>
    intro c0 G1 M1 o2 hc h1 R1 hM hs
    have hlc : c0 < 13 := by omega
    obtain ⟨⟨q0, hq1, hq2⟩, y, hy, hy2⟩ := hq c0 (by omega)
    have hq1' : M1 47 c0 = nI q0 := by rw [hM 47 (by decide)]; exact hq1
    have eu : upN M1 c0 = nI y := by unfold upN nN at hy2 ⊢; rw [hM 47 (by decide), hM 46 (by decide)]; exact hy2
    have ey : (nI y).toNatClampNeg = y := nI_clamp (by omega)
    refine b_X9_idles_2.go C ⟨_, R1.1, fun h2 => absurd (show M1 45 0 < nI c0 from h2) (by rw [hM 45 (by decide), hk]; exact nI_nlt (by omega) (by omega)), fun h2 => ⟨trivial, ?_⟩⟩
    refine b_X9_idles_10.go C ⟨trivial, ?_⟩
    refine k_X9_idles_12.go C X (r_upmost d G1 x ra M1 c0 q0 R1 (by omega) hq1' hq2) (rest := []) rfl rfl rfl (fun _ => ⟨x, 9, _, rfl, R1.1, by decide⟩) (Nat.zero_le _) (Rq.of (Nat.le_refl _) (by decide) (Nat.le_refl _) (Nat.le_refl _)) ?_
    rintro r G' ⟨rfl, rfl⟩
    rw [eu]
    have put : ∀ z : Int32, z = (if upN M1 c0 = 0 ∨ M1 19 (upN M1 c0).toNatClampNeg = nI 3 then M1 49 c0 + nI 1 else M1 49 c0) → V p l e (RM (d + 1) 0 0) s m args below meth c Y (GA G s.heap.size) (QM below args s (RM (d + 1) 0 0) Y G (fun r G' => r = none ∧ RR G' x ra (idlM k M))) 52 G' 0 0 [some (.inr (.inr (some x))), some (.inl (nI c0)), some (.inl (nI y))] [.inl z, .inl (nI c0), .inr (.inr (some (ra 49)))] := by
      intro z hz
      refine b_X9_idles_52.go C ⟨_, _, R1.2.1 49 (by decide) rfl, c0, rfl, hlc, lb rfl, _, nI_1 c0, trivial, ?_⟩
      exact ih (c0 + 1) _ _ _ (by omega) (by omega) (R1.st 49 c0 z (by decide) rfl) (fun f hf => by rw [up2_f hf]; exact hM f hf) (by rw [hs, idlF, ← hz])
    refine b_X9_idles_15.go C ⟨_, R1.1, fun h3 => ⟨trivial, ?_⟩, fun h3 => ⟨trivial, ?_⟩⟩
    · refine b_X9_idles_35.go C ⟨_, R1.1, _, _, R1.2.1 49 (by decide) rfl, c0, rfl, hlc, lb rfl, _, rfl, _, rfl, trivial, ?_⟩
      exact put _ (by rw [if_pos (Or.inl (by rw [eu]; exact h3))])
    · refine b_X9_idles_25.go C ⟨_, R1.1, _, _, R1.2.1 19 (by decide) rfl, y, rfl, by show y < 201; omega, lb rfl, _, rfl, fun h4 => ⟨trivial, ?_⟩, fun h4 => ⟨trivial, ?_⟩⟩
      · refine b_X9_idles_46.go C ⟨_, R1.1, _, _, R1.2.1 49 (by decide) rfl, c0, rfl, hlc, lb rfl, _, rfl, trivial, ?_⟩
        exact put _ (by rw [if_neg (fun h => h.elim (fun z => h3 (by rw [← eu]; exact z)) (fun z => h4 (by rw [eu, ey] at z; exact z)))])
      · refine b_X9_idles_35.go C ⟨_, R1.1, _, _, R1.2.1 49 (by decide) rfl, c0, rfl, hlc, lb rfl, _, rfl, _, rfl, trivial, ?_⟩
        exact put _ (by rw [if_pos (Or.inr (by rw [eu, ey]; exact h4))])
end REFQ
