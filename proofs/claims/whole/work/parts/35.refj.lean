/-! the reference: none, any -/
section REFJ
variable {l : Launch} {Y : YT}
/-- the failures of the failed inputs at the places p .. p + q - 1 go to failure f -/
def nonF (t f : Nat) : Nat → Nat → MS → MS
  | 0, _, M => M
  | q + 1, p, M => nonF t f q (p + 1) (if M 8 (nN M 15 p) = nI 2 ∧ inpB M t (M 15 p) = true then supM M f (nN M 36 f) (nN M 37 f) (M 12 (nN M 15 p)) else M)
def nonM (M : MS) (t la : Nat) : MS :=
  if la = 0 then markM M t (nI 3) else wfM (nonF t (nN M 38 0) (nN M 10 la - 1) 1 (newFM M (nN M 38 0) (nI 2) (nI t) (M 12 la))) t (nI (nN M 38 0))
/-- the fields that nonF leaves as they are -/
def nonK (M M' : MS) : Prop := ∀ f, f ≠ 37 → f ≠ 39 → f ≠ 40 → M' f = M f
theorem markOk_k {M M' : MS} {s : Nat} (h : markOk M s) (hk : ∀ f, f = 16 ∨ f = 53 ∨ f = 25 ∨ f = 47 ∨ f = 2 ∨ f = 19 → M' f = M f) : markOk M' s := by
  obtain ⟨h1, h2, h3, h4⟩ := h
  unfold markOk atC at *
  rw [hk 16 (by simp), hk 53 (by simp), hk 25 (by simp), hk 47 (by simp), hk 2 (by simp), hk 19 (by simp)]
  exact ⟨h1, h2, h3, h4⟩
theorem inpB_k {M M' : MS} (t : Nat) (v : Int32) (h3 : M' 3 = M 3) (h4 : M' 4 = M 4) : inpB M' t v = inpB M t v := by unfold inpB kI; rw [h3, h4]
set_option maxHeartbeats 1000000 in
theorem r_none (d : Nat) (G : GH) (x : Nat) (ra : Nat → Nat) (M : MS) (t la pl a : Nat) (hR : RR G x ra M) (mk : markOk M t) (hI : inOk M t) (hf : M 38 0 = nI (nN M 38 0)) (hf2 : nN M 38 0 < 2000) (ha : M 40 0 = nI a) (ha2 : a + 201 < 8000) (hla : la ≤ 200) (hpl : M 10 la = nI pl) (hpl2 : pl ≤ 200) (hE : ∀ p, 1 ≤ p → p < pl → M 15 p = nI (nN M 15 p) ∧ nN M 15 p ≤ 200) : Cd l yX9_none cX9_none 6 none (d + 3) 0 0 Y [.inr (.inr (some x)), .inl (nI t), .inl (nI la)] G (fun r G' => r = none ∧ RR G' x ra (nonM M t la)) := by
  refine Ct.of (ini := False) (by decide +kernel) False.elim rfl (Nat.le_of_ble_eq_true rfl) ?_
  intro p e s m args below meth c C X
  have hlt : t < 201 := by have := mk.1; omega
  have hll : la < 201 := by omega
  have ep : nN M 10 la = pl := nN_of hpl (by omega)
  refine b_X9_none_0.go C ⟨fun h1 => ⟨trivial, ?_⟩, fun h1 => ⟨trivial, ?_⟩⟩
  rotate_left
  · have hz : la = 0 := (nI_eq (by omega) (by omega)).mp (h1.trans nI_0.symm)
    refine b_X9_none_4.go C ⟨trivial, ?_⟩
    refine k_X9_none_7.go C X (r_mark (d + 1) _ x ra M t (nI 3) hR mk) (rest := []) rfl rfl rfl (fun _ => ⟨x, 9, _, rfl, hR.1, by decide⟩) (Nat.zero_le _) (Rq.of (Nat.le_refl _) (by decide) (Nat.le_refl _) (Nat.le_refl _)) ?_
    rintro r G' ⟨rfl, R1⟩
    exact V_vret C X d_X9_none_10 (Nat.zero_le _) (Nat.zero_le _) ⟨rfl, by rw [nonM, if_pos hz]; exact R1⟩
  have hnz : ¬ la = 0 := fun h => h1 (by rw [h]; exact nI_0)
  obtain ⟨f, ef⟩ : ∃ f, f = nN M 38 0 := ⟨_, rfl⟩
  rw [← ef] at hf hf2
  refine b_X9_none_11.go C ⟨_, hR.1, _, _, hR.2.1 12 (by decide) rfl, la, rfl, hll, lb rfl, _, rfl, trivial, ?_⟩
  refine k_X9_none_20.go C X (r_newFailure d _ x ra M f (nI 2) (nI t) (M 12 la) hR hf hf2) (rest := []) rfl rfl rfl (fun _ => ⟨x, 9, _, rfl, hR.1, by decide⟩) (Nat.zero_le _) (Rq.of (by omega) (by decide) (Nat.le_refl _) (Nat.le_refl _)) ?_
  rintro r G1 ⟨rfl, R1⟩
  refine b_X9_none_23.go C ⟨trivial, ?_⟩
  have e36 : newFM M f (nI 2) (nI t) (M 12 la) 36 f = nI a := by
    show up2 _ 36 f (M 40 0) 36 f = nI a
    rw [up2_s]; exact ha
  have e37 : newFM M f (nI 2) (nI t) (M 12 la) 37 f = nI 0 := by
    show up2 _ 37 f (nI 0) 37 f = nI 0
    rw [up2_s]
  refine (show ∀ (q pp k : Nat) (G2 : GH) (M2 : MS) (o : Option AV), (pp + q = pl ∨ (q = 0 ∧ pl ≤ pp)) ∧ pp ≤ 201 → 1 ≤ pp → k + 1 ≤ pp → RR G2 x ra M2 → nonK (newFM M f (nI 2) (nI t) (M 12 la)) M2 → M2 37 f = nI k → nonF t f (pl - 1) 1 (newFM M f (nI 2) (nI t) (M 12 la)) = nonF t f q pp M2 → V p l e _ s m args below meth c Y _ _ 27 G2 0 0 [some (.inr (.inr (some x))), some (.inl (nI t)), some (.inl (nI la)), some (.inl (nI f)), some (.inl (nI pp)), o] [] from ?_) (pl - 1) 1 0 G1 _ none (by omega) (Nat.le_refl 1) (Nat.le_refl 1) R1 (fun _ _ _ _ => rfl) e37 rfl
  intro q
  induction q with
  | zero =>
    intro pp k G2 M2 o hq hp1 hk R2 hK h37 hs
    have h10 : M2 10 la = nI pl := by rw [hK 10 (by decide) (by decide) (by decide)]; exact hpl
    refine b_X9_none_27.go C ⟨_, R2.1, _, _, R2.2.1 10 (by decide) rfl, la, rfl, hll, lb rfl, _, h10, fun h2 => ⟨trivial, ?_⟩, fun h2 => ?_⟩
    · refine b_X9_none_86.go C ⟨trivial, ?_⟩
      refine k_X9_none_89.go C X (r_withFailure d _ x ra M2 t (nI f) R2 (markOk_k (markOk_nf mk) (fun g hg => hK g (by omega) (by omega) (by omega)))) (rest := []) rfl rfl rfl (fun _ => ⟨x, 9, _, rfl, R2.1, by decide⟩) (Nat.zero_le _) (Rq.of (Nat.le_refl _) (by decide) (Nat.le_refl _) (Nat.le_refl _)) ?_
      rintro r G3 ⟨rfl, R3⟩
      exact V_vret C X d_X9_none_92 (Nat.zero_le _) (Nat.zero_le _) ⟨rfl, by rw [nonM, if_neg hnz, ← ef, ep, hs, nonF]; exact R3⟩
    · exact absurd (nI_le (show pl ≤ pp by omega) (by omega)) h2
  | succ q ih =>
    intro pp k G2 M2 o hq hp1 hk R2 hK h37 hs
    have hpp : pp < pl := by omega
    have h10 : M2 10 la = nI pl := by rw [hK 10 (by decide) (by decide) (by decide)]; exact hpl
    obtain ⟨g1, g2⟩ := hE pp hp1 hpp
    have m15 : M2 15 = M 15 := hK 15 (by decide) (by decide) (by decide)
    have m8 : M2 8 = M 8 := hK 8 (by decide) (by decide) (by decide)
    have m12 : M2 12 = M 12 := hK 12 (by decide) (by decide) (by decide)
    have m3 : M2 3 = M 3 := hK 3 (by decide) (by decide) (by decide)
    have m4 : M2 4 = M 4 := hK 4 (by decide) (by decide) (by decide)
    have en : nN M2 15 pp = nN M 15 pp := by rw [nN, m15, nN]
    have h15 : M2 15 pp = nI (nN M 15 pp) := by rw [m15]; exact g1
    have hlz : nN M 15 pp < 201 := by omega
    have h36 : M2 36 f = nI a := by rw [hK 36 (by decide) (by decide) (by decide)]; exact e36
    have hk4 : M2 4 t = nI (kI M2 t) := by unfold kI; rw [m4]; exact hI.2.1
    have hk5 : kI M2 t ≤ 24 := by unfold kI; rw [m4]; exact hI.2.2.1
    have skip : ¬ (M2 8 (nN M2 15 pp) = nI 2 ∧ inpB M2 t (M2 15 pp) = true) → V p l e (RM (d + 3) 0 0) s m args below meth c Y (GA G s.heap.size) (QM below args s (RM (d + 3) 0 0) Y G (fun r G' => r = none ∧ RR G' x ra (nonM M t la))) 80 G2 0 0 [some (.inr (.inr (some x))), some (.inl (nI t)), some (.inl (nI la)), some (.inl (nI f)), some (.inl (nI pp)), some (.inl (nI (nN M 15 pp)))] [] := by
      intro hn
      refine b_X9_none_80.go C ⟨_, nI_1 pp, trivial, ?_⟩
      exact ih (pp + 1) k G2 M2 _ (by omega) (by omega) (by omega) R2 hK h37 (by rw [hs, nonF, if_neg hn])
    refine b_X9_none_27.go C ⟨_, R2.1, _, _, R2.2.1 10 (by decide) rfl, la, rfl, hll, lb rfl, _, h10, fun h2 => absurd ((nI_leI (by omega) (by omega)).mp h2) (by omega), fun h2 => ⟨trivial, ?_⟩⟩
    refine b_X9_none_38.go C ⟨_, R2.1, _, _, R2.2.1 15 (by decide) rfl, pp, rfl, by show pp < 201; omega, lb rfl, _, h15, _, R2.1, _, _, R2.2.1 8 (by decide) rfl, _, rfl, hlz, lb rfl, _, rfl, fun h3 => ⟨trivial, ?_⟩, fun h3 => ⟨trivial, ?_⟩⟩
    · exact skip (fun h => h3 (by rw [← en]; exact h.1))
    · refine b_X9_none_58.go C ⟨trivial, ?_⟩
      refine k_X9_none_62.go C X (r_isInput d G2 x ra M2 t (kI M2 t) (nI (nN M 15 pp)) R2 mk.1 hk4 hk5) (rest := []) rfl rfl rfl (fun _ => ⟨x, 9, _, rfl, R2.1, by decide⟩) (Nat.zero_le _) (Rq.of (by omega) (by decide) (Nat.le_refl _) (Nat.le_refl _)) ?_
      rintro r G3 ⟨rfl, rfl⟩
      refine b_X9_none_65.go C ⟨fun h4 => ⟨trivial, ?_⟩, fun h4 => ⟨trivial, ?_⟩⟩
      · exact skip (fun h => by
          have h9 : inpB M2 t (nI (nN M 15 pp)) = false := bI_0 h4
          rw [h15, h9] at h; cases h.2)
      · have h9 : inpB M2 t (nI (nN M 15 pp)) = true := bI_1 h4
        have n36 : nN M2 36 f = a := nN_of h36 (by omega)
        have n37 : nN M2 37 f = k := nN_of h37 (by omega)
        refine b_X9_none_68.go C ⟨_, R2.1, _, _, R2.2.1 12 (by decide) rfl, _, rfl, hlz, lb rfl, _, rfl, trivial, ?_⟩
        refine k_X9_none_77.go C X (r_suppress d _ x ra M2 f a k _ R2 hf2 h36 h37 (by omega)) (rest := []) rfl rfl rfl (fun _ => ⟨x, 9, _, rfl, R2.1, by decide⟩) (Nat.zero_le _) (Rq.of (by omega) (by decide) (Nat.le_refl _) (Nat.le_refl _)) ?_
        rintro r G4 ⟨rfl, R4⟩
        refine b_X9_none_80.go C ⟨_, nI_1 pp, trivial, ?_⟩
        refine ih (pp + 1) (k + 1) G4 _ _ (by omega) (by omega) (by omega) R4 (fun g q1 q2 q3 => ?_) ?_ ?_
        · rw [supM, up2_f q3, up2_f q1, up2_f q2]; exact hK g q1 q2 q3
        · show up2 (up2 (up2 M2 39 (a + k) _) 37 f (nI (k + 1))) 40 0 _ 37 f = _
          rw [up2_f (by decide), up2_s]
        · rw [hs, nonF, if_pos ⟨by rw [en]; exact h3, by rw [h15]; exact h9⟩, n36, n37, en]
end REFJ
