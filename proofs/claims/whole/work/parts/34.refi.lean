/-! the reference: always, all -/
section REFI
variable {l : Launch} {Y : YT}
theorem markOk_sup {M : MS} {s f a k : Nat} {o : Int32} (h : markOk M s) : markOk (supM M f a k o) s := markOk_up (markOk_up (markOk_up h (by decide)) (by decide)) (by decide)
def alwM (M : MS) (t s c : Nat) : MS :=
  if M 8 s = 0 ∨ M 8 c = 0 then M else
    if M 8 s = nI 2 ∧ M 8 c = nI 2 then wfM (supM (newFM M (nN M 38 0) (M 33 (nN M 12 s)) (nI t) (M 12 s)) (nN M 38 0) (nN M 40 0) 0 (M 12 c)) t (nI (nN M 38 0))
    else asM M t (if M 8 s = nI 1 ∧ M 8 c = nI 2 then c else s)
set_option maxHeartbeats 1000000 in
theorem r_askAlways (d : Nat) (G : GH) (x : Nat) (ra : Nat → Nat) (M : MS) (t u w : Nat) (hR : RR G x ra M) (ok : askOk M t) (h3 : M 3 (24 * t) = nI u) (hu : u ≤ 200) (h7 : M 7 t = nI w) (hw : w ≤ 200) (hfl : flOk M u) : Cd l yX9_askAlways cX9_askAlways 5 none (d + 3) 0 0 Y [.inr (.inr (some x)), .inl (nI t)] G (fun r G' => r = none ∧ RR G' x ra (alwM M t u w)) := by
  obtain ⟨mk, ⟨f, hf, hf2⟩, ⟨a, ha, ha2⟩⟩ := ok
  refine Ct.of (ini := False) (by decide +kernel) False.elim rfl (Nat.le_of_ble_eq_true rfl) ?_
  intro p e s m args below meth c C X
  have hlt : t < 201 := by have := mk.1; omega
  have hl3 : 24 * t < 4824 := by omega
  have hlu : u < 201 := by omega
  have hlw : w < 201 := by omega
  have ef : nN M 38 0 = f := nN_of hf (by omega)
  have ea : nN M 40 0 = a := nN_of ha (by omega)
  refine b_X9_askAlways_0.go C ⟨_, hR.1, _, pk_mul 24 t, _, _, hR.2.1 3 (by decide) rfl, 24 * t, rfl, hl3, lb rfl, _, h3, _, hR.1, _, _, hR.2.1 7 (by decide) rfl, t, rfl, hlt, lb rfl, _, h7, _, hR.1, _, _, hR.2.1 8 (by decide) rfl, u, rfl, hlu, lb rfl, _, rfl, fun h1 => ⟨trivial, ?_⟩, fun h1 => ⟨trivial, ?_⟩⟩
  · exact V_vret C X d_X9_askAlways_35 (Nat.zero_le _) (Nat.zero_le _) ⟨rfl, by rw [alwM, if_pos (Or.inl h1)]; exact hR⟩
  refine b_X9_askAlways_26.go C ⟨_, hR.1, _, _, hR.2.1 8 (by decide) rfl, w, rfl, hlw, lb rfl, _, rfl, fun h2 => ⟨trivial, ?_⟩, fun h2 => ⟨trivial, ?_⟩⟩
  rotate_left
  · exact V_vret C X d_X9_askAlways_35 (Nat.zero_le _) (Nat.zero_le _) ⟨rfl, by rw [alwM, if_pos (Or.inr h2)]; exact hR⟩
  have hne : ¬ (M 8 u = 0 ∨ M 8 w = 0) := fun h => h.elim h1 h2
  have other : ¬ (M 8 u = nI 2 ∧ M 8 w = nI 2) → V p l e (RM (d + 3) 0 0) s m args below meth c Y (GA G s.heap.size) (QM below args s (RM (d + 3) 0 0) Y G (fun r G' => r = none ∧ RR G' x ra (alwM M t u w))) 102 G 0 0 [some (.inr (.inr (some x))), some (.inl (nI t)), some (.inl (nI u)), some (.inl (nI w)), none] [] := by
    intro hn
    have fin : ∀ z : Nat, z ≤ 200 → z = (if M 8 u = nI 1 ∧ M 8 w = nI 2 then w else u) → V p l e (RM (d + 3) 0 0) s m args below meth c Y (GA G s.heap.size) (QM below args s (RM (d + 3) 0 0) Y G (fun r G' => r = none ∧ RR G' x ra (alwM M t u w))) 129 G 0 0 [some (.inr (.inr (some x))), some (.inl (nI t)), some (.inl (nI u)), some (.inl (nI w)), none] [.inl (nI z), .inl (nI t), .inr (.inr (some x))] := by
      intro z hz2 hz
      refine k_X9_askAlways_129.go C X (r_as d _ x ra M t z hR mk hz2) (rest := []) rfl rfl rfl (fun _ => ⟨x, 9, _, rfl, hR.1, by decide⟩) (Nat.zero_le _) (Rq.of (Nat.le_refl _) (by decide) (Nat.le_refl _) (Nat.le_refl _)) ?_
      rintro r G' ⟨rfl, R1⟩
      exact V_vret C X d_X9_askAlways_132 (Nat.zero_le _) (Nat.zero_le _) ⟨rfl, by rw [alwM, if_neg hne, if_neg hn, ← hz]; exact R1⟩
    refine b_X9_askAlways_102.go C ⟨_, hR.1, _, _, hR.2.1 8 (by decide) rfl, u, rfl, hlu, lb rfl, _, rfl, fun h4 => ⟨trivial, ?_⟩, fun h4 => ⟨trivial, ?_⟩⟩
    · refine b_X9_askAlways_128.go C ⟨trivial, ?_⟩
      exact fin u hu (by rw [if_neg (fun h => h4 h.1)])
    · refine b_X9_askAlways_114.go C ⟨_, hR.1, _, _, hR.2.1 8 (by decide) rfl, w, rfl, hlw, lb rfl, _, rfl, fun h5 => ⟨trivial, ?_⟩, fun h5 => ⟨trivial, ?_⟩⟩
      · refine b_X9_askAlways_128.go C ⟨trivial, ?_⟩
        exact fin u hu (by rw [if_neg (fun h => h5 h.2)])
      · refine b_X9_askAlways_124.go C ⟨trivial, ?_⟩
        exact fin w hw (by rw [if_pos ⟨h4, h5⟩])
  refine b_X9_askAlways_36.go C ⟨_, hR.1, _, _, hR.2.1 8 (by decide) rfl, u, rfl, hlu, lb rfl, _, rfl, fun h4 => ⟨trivial, ?_⟩, fun h4 => ⟨trivial, ?_⟩⟩
  · exact other (fun h => h4 h.1)
  refine b_X9_askAlways_46.go C ⟨_, hR.1, _, _, hR.2.1 8 (by decide) rfl, w, rfl, hlw, lb rfl, _, rfl, fun h5 => ⟨trivial, ?_⟩, fun h5 => ⟨trivial, ?_⟩⟩
  · exact other (fun h => h5 h.2)
  obtain ⟨g1, g2, g3, g4⟩ := hfl h4
  refine b_X9_askAlways_56.go C ⟨_, hR.1, _, hR.1, _, _, hR.2.1 12 (by decide) rfl, u, rfl, hlu, lb rfl, _, g1, _, _, hR.2.1 33 (by decide) rfl, _, rfl, g2, lb rfl, _, rfl, _, hR.1, _, _, hR.2.1 12 (by decide) rfl, u, rfl, hlu, lb rfl, _, rfl, trivial, ?_⟩
  refine k_X9_askAlways_75.go C X (r_newFailure d _ x ra M f _ (nI t) _ hR hf hf2) (rest := []) rfl rfl rfl (fun _ => ⟨x, 9, _, rfl, hR.1, by decide⟩) (Nat.zero_le _) (Rq.of (by omega) (by decide) (Nat.le_refl _) (Nat.le_refl _)) ?_
  rintro r G' ⟨rfl, R1⟩
  have hm12 : newFM M f (M 33 (nN M 12 u)) (nI t) (M 12 u) 12 w = M 12 w := rfl
  refine b_X9_askAlways_78.go C ⟨_, R1.1, _, _, R1.2.1 12 (by decide) rfl, w, rfl, hlw, lb rfl, _, hm12, trivial, ?_⟩
  have e36 : newFM M f (M 33 (nN M 12 u)) (nI t) (M 12 u) 36 f = nI a := by
    show up2 _ 36 f (M 40 0) 36 f = nI a
    rw [up2_s]; exact ha
  have e37 : newFM M f (M 33 (nN M 12 u)) (nI t) (M 12 u) 37 f = nI 0 := by
    show up2 _ 37 f (nI 0) 37 f = nI 0
    rw [up2_s]
  refine k_X9_askAlways_89.go C X (r_suppress d _ x ra _ f a 0 (M 12 w) R1 hf2 e36 e37 (by omega)) (rest := []) rfl rfl rfl (fun _ => ⟨x, 9, _, rfl, R1.1, by decide⟩) (Nat.zero_le _) (Rq.of (by omega) (by decide) (Nat.le_refl _) (Nat.le_refl _)) ?_
  rintro r G'' ⟨rfl, R2⟩
  refine b_X9_askAlways_92.go C ⟨trivial, ?_⟩
  refine k_X9_askAlways_96.go C X (r_withFailure d _ x ra _ t (nI f) R2 (markOk_sup (markOk_nf mk))) (rest := []) rfl rfl rfl (fun _ => ⟨x, 9, _, rfl, R2.1, by decide⟩) (Nat.zero_le _) (Rq.of (Nat.le_refl _) (by decide) (Nat.le_refl _) (Nat.le_refl _)) ?_
  rintro r G3 ⟨rfl, R3⟩
  refine b_X9_askAlways_99.go C ⟨trivial, ?_⟩
  exact V_vret C X d_X9_askAlways_132 (Nat.zero_le _) (Nat.zero_le _) ⟨rfl, by rw [alwM, if_neg hne, if_pos ⟨h4, h5⟩, ef, ea]; exact R3⟩
/-- have all inputs from j on values, and their sum -/
def allF (M : MS) (t : Nat) : Nat → Nat → Bool → Int32 → Bool × Int32
  | 0, _, w, sm => (w, sm)
  | q + 1, j, w, sm => allF M t q (j + 1) (w && decide (M 8 (iN M t j) = nI 1)) (sm + M 11 (iN M t j))
def allM (M : MS) (t : Nat) : MS :=
  if ¬ fstN M t false = 0 then asM M t (fstN M t false) else
    if (allF M t (kI M t) 0 true (nI 0)).1 = true then wvM M t (allF M t (kI M t) 0 true (nI 0)).2 else M
set_option maxHeartbeats 1000000 in
theorem r_askAll (d : Nat) (G : GH) (x : Nat) (ra : Nat → Nat) (M : MS) (t : Nat) (hR : RR G x ra M) (mk : markOk M t) (hI : inOk M t) : Cd l yX9_askAll cX9_askAll 6 none (d + 3) 0 0 Y [.inr (.inr (some x)), .inl (nI t)] G (fun r G' => r = none ∧ RR G' x ra (allM M t)) := by
  refine Ct.of (ini := False) (by decide +kernel) False.elim rfl (Nat.le_of_ble_eq_true rfl) ?_
  intro p e s m args below meth c C X
  have hlt : t < 201 := by have := mk.1; omega
  have hfl := fstN_le (wh := false) hI
  refine b_X9_askAll_0.go C ⟨trivial, ?_⟩
  refine k_X9_askAll_3.go C X (r_firstOf d G x ra M t false hR hI) (rest := []) rfl rfl rfl (fun _ => ⟨x, 9, _, rfl, hR.1, by decide⟩) (Nat.zero_le _) (Rq.of (by omega) (by decide) (Nat.le_refl _) (Nat.le_refl _)) ?_
  rintro r G' ⟨rfl, rfl⟩
  refine b_X9_askAll_6.go C ⟨fun h1 => ⟨trivial, ?_⟩, fun h1 => ⟨trivial, ?_⟩⟩
  rotate_left
  · refine b_X9_askAll_11.go C ⟨trivial, ?_⟩
    refine k_X9_askAll_14.go C X (r_as d _ x ra M t _ hR mk hfl) (rest := []) rfl rfl rfl (fun _ => ⟨x, 9, _, rfl, hR.1, by decide⟩) (Nat.zero_le _) (Rq.of (Nat.le_refl _) (by decide) (Nat.le_refl _) (Nat.le_refl _)) ?_
    rintro r G'' ⟨rfl, R1⟩
    exact V_vret C X d_X9_askAll_17 (Nat.zero_le _) (Nat.zero_le _) ⟨rfl, by rw [allM, if_pos (fun h => h1 (by rw [h]; exact nI_0))]; exact R1⟩
  have hz : fstN M t false = 0 := (nI_eq (by omega) (by omega)).mp (h1.trans nI_0.symm)
  obtain ⟨-, hk, hk2, hj9⟩ := hI
  refine b_X9_askAll_18.go C ⟨trivial, ?_⟩
  refine (show ∀ (q j : Nat) (w : Bool) (sm : Int32), j + q = kI M t → allF M t (kI M t) 0 true (nI 0) = allF M t q j w sm → V p l e _ s m args below meth c Y _ _ 26 G' 0 0 [some (.inr (.inr (some x))), some (.inl (nI t)), some (.inl (nI (fstN M t false))), some (.inl sm), some (.inl (bI w)), some (.inl (nI j))] [] from ?_) (kI M t) 0 true (nI 0) (by omega) rfl
  intro q
  induction q with
  | zero =>
    intro j w sm hj hs
    have e1 : allM M t = if w = true then wvM M t sm else M := by rw [allM, if_neg (fun h => h hz), hs, allF]
    refine b_X9_askAll_26.go C ⟨_, hR.1, _, _, hR.2.1 4 (by decide) rfl, t, rfl, hlt, lb rfl, _, hk, fun h2 => ⟨trivial, ?_⟩, fun h2 => absurd (nI_le (by omega) (by omega)) h2⟩
    refine b_X9_askAll_96.go C ⟨fun h2 => ⟨trivial, ?_⟩, fun h2 => ⟨trivial, ?_⟩⟩
    · exact V_vret C X d_X9_askAll_107 (Nat.zero_le _) (Nat.zero_le _) ⟨rfl, by rw [e1, bI_0 h2]; exact hR⟩
    · refine b_X9_askAll_101.go C ⟨trivial, ?_⟩
      refine k_X9_askAll_104.go C X (r_withValue d _ x ra M t sm hR mk) (rest := []) rfl rfl rfl (fun _ => ⟨x, 9, _, rfl, hR.1, by decide⟩) (Nat.zero_le _) (Rq.of (Nat.le_refl _) (by decide) (Nat.le_refl _) (Nat.le_refl _)) ?_
      rintro r G'' ⟨rfl, R1⟩
      exact V_vret C X d_X9_askAll_107 (Nat.zero_le _) (Nat.zero_le _) ⟨rfl, by rw [e1, bI_1 h2]; exact R1⟩
  | succ q ih =>
    intro j w sm hj hs
    obtain ⟨hi, hi1, hi2⟩ := hj9 j (by omega)
    have hli : iN M t j < 201 := by omega
    have hb : 24 * t + j < 4824 := by omega
    have next : ∀ b : Bool, b = (w && decide (M 8 (iN M t j) = nI 1)) → V p l e (RM (d + 3) 0 0) s m args below meth c Y (GA G' s.heap.size) (QM below args s (RM (d + 3) 0 0) Y G' (fun r G' => r = none ∧ RR G' x ra (allM M t))) 68 G' 0 0 [some (.inr (.inr (some x))), some (.inl (nI t)), some (.inl (nI (fstN M t false))), some (.inl sm), some (.inl (bI w)), some (.inl (nI j))] [.inl (bI b)] := by
      intro b hb9
      refine b_X9_askAll_68.go C ⟨_, hR.1, _, hR.1, _, pk_mul 24 t, _, nI_add _ _, _, _, hR.2.1 3 (by decide) rfl, 24 * t + j, rfl, hb, lb rfl, _, hi, _, _, hR.2.1 11 (by decide) rfl, iN M t j, rfl, hli, lb rfl, _, rfl, _, rfl, _, nI_1 j, trivial, ?_⟩
      exact ih (j + 1) b _ (by omega) (by rw [hs, allF, ← hb9])
    refine b_X9_askAll_26.go C ⟨_, hR.1, _, _, hR.2.1 4 (by decide) rfl, t, rfl, hlt, lb rfl, _, hk, fun h2 => absurd ((nI_leI (by omega) (by omega)).mp h2) (by omega), fun h2 => ⟨trivial, ?_⟩⟩
    refine b_X9_askAll_37.go C ⟨fun h3 => ⟨trivial, ?_⟩, fun h3 => ⟨trivial, ?_⟩⟩
    · refine b_X9_askAll_67.go C ⟨trivial, ?_⟩
      exact next false (by rw [bI_0 h3, Bool.false_and])
    · refine b_X9_askAll_42.go C ⟨_, hR.1, _, hR.1, _, pk_mul 24 t, _, nI_add _ _, _, _, hR.2.1 3 (by decide) rfl, 24 * t + j, rfl, hb, lb rfl, _, hi, _, _, hR.2.1 8 (by decide) rfl, iN M t j, rfl, hli, lb rfl, _, rfl, fun h4 => ⟨trivial, ?_⟩, fun h4 => ⟨trivial, ?_⟩⟩
      · refine b_X9_askAll_67.go C ⟨trivial, ?_⟩
        exact next false (by rw [decide_eq_false h4, Bool.and_false])
      · refine b_X9_askAll_63.go C ⟨trivial, ?_⟩
        exact next true (by rw [bI_1 h3, decide_eq_true h4]; rfl)
end REFI
