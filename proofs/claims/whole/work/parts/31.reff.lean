/-! the reference: servedBy, firstOf -/
section REFF
variable {l : Launch} {Y : YT}
/-- the j-th input of t -/
def iN (M : MS) (t j : Nat) : Nat := nN M 3 (24 * t + j)
/-- t's inputs are such as they must be to be read -/
def inOk (M : MS) (t : Nat) : Prop := t ≤ 200 ∧ M 4 t = nI (kI M t) ∧ kI M t ≤ 24 ∧ ∀ j, j < kI M t → M 3 (24 * t + j) = nI (iN M t j) ∧ 1 ≤ iN M t j ∧ iN M t j ≤ 200
/-- how many of the stages t .. t + q - 1 that have not ended have s as an input, and acc more -/
def srvF (M : MS) (s : Nat) : Nat → Nat → Nat → Nat
  | 0, _, acc => acc
  | q + 1, t, acc => srvF M s q (t + 1) (if inpB M t (nI s) = true ∧ M 8 t = 0 then acc + 1 else acc)
def srvN (M : MS) (s : Nat) : Nat := srvF M s (nN M 1 0 - s) (s + 1) 0
theorem srvF_le (M : MS) (s : Nat) : ∀ (q t acc : Nat), srvF M s q t acc ≤ acc + q
  | 0, _, _ => Nat.le_refl _
  | q + 1, t, acc => by
    rw [srvF]
    have h9 := srvF_le M s q (t + 1) (if inpB M t (nI s) = true ∧ M 8 t = 0 then acc + 1 else acc)
    have h8 : (if inpB M t (nI s) = true ∧ M 8 t = 0 then acc + 1 else acc) ≤ acc + 1 := by split <;> omega
    omega
set_option maxHeartbeats 1000000 in
theorem r_servedBy (d : Nat) (G : GH) (x : Nat) (ra : Nat → Nat) (M : MS) (u n : Nat) (hR : RR G x ra M) (hn : M 1 0 = nI n) (hn2 : n ≤ 200) (hu : u ≤ n) (hI : ∀ t, t ≤ n → inOk M t) : Cd l yX9_servedBy cX9_servedBy 6 (some .int) d 0 0 Y [.inr (.inr (some x)), .inl (nI u)] G (fun r G' => G' = G ∧ r = some (.inl (nI (srvN M u)))) := by
  refine Ct.of (ini := False) (by decide +kernel) False.elim rfl (Nat.le_of_ble_eq_true rfl) ?_
  intro p e s m args below meth c C X
  have en : nN M 1 0 = n := nN_of hn (by omega)
  refine b_X9_servedBy_0.go C ⟨_, nI_1 u, trivial, ?_⟩
  refine (show ∀ (q t acc : Nat) (o4 o5 : Option AV), t + q = n + 1 → acc ≤ t → srvN M u = srvF M u q t acc → V p l e _ s m args below meth c Y _ _ 6 G 0 0 [some (.inr (.inr (some x))), some (.inl (nI u)), some (.inl (nI acc)), some (.inl (nI t)), o4, o5] [] from ?_) (n - u) (u + 1) 0 none none (by omega) (by omega) (by rw [srvN, en])
  intro q
  induction q with
  | zero =>
    intro t acc o4 o5 ht ha hs
    refine b_X9_servedBy_6.go C ⟨_, hR.1, fun h1 => ⟨trivial, ?_⟩, fun h1 => absurd (show M 1 0 < nI t by rw [hn]; exact nI_lt (by omega) (by omega)) h1⟩
    refine b_X9_servedBy_93.go C ⟨trivial, ?_⟩
    exact V_iret C X d_X9_servedBy_94 (Nat.zero_le _) (Nat.zero_le _) ⟨rfl, by rw [hs, srvF]⟩
  | succ q ih =>
    intro t acc o4 o5 ht ha hs
    obtain ⟨ht2, hk, hk2, hj⟩ := hI t (by omega)
    have hlt : t < 201 := by omega
    refine b_X9_servedBy_6.go C ⟨_, hR.1, fun h1 => absurd (show M 1 0 < nI t from h1) (by rw [hn]; exact nI_nlt (by omega) (by omega)), fun h1 => ⟨trivial, ?_⟩⟩
    refine b_X9_servedBy_14.go C ⟨trivial, ?_⟩
    refine (show ∀ (w j : Nat) (a : Bool), j + w = kI M t → inpB M t (nI u) = anyI (fun j => decide (M 3 (24 * t + j) = nI u)) w j a → V p l e _ s m args below meth c Y _ _ 20 G 0 0 [some (.inr (.inr (some x))), some (.inl (nI u)), some (.inl (nI acc)), some (.inl (nI t)), some (.inl (bI a)), some (.inl (nI j))] [] from ?_) (kI M t) 0 false (by omega) rfl
    intro w
    induction w with
    | zero =>
      intro j a hw hp
      have hp' : inpB M t (nI u) = a := hp
      refine b_X9_servedBy_20.go C ⟨_, hR.1, _, _, hR.2.1 4 (by decide) rfl, t, rfl, hlt, lb rfl, _, hk, fun h2 => ⟨trivial, ?_⟩, fun h2 => absurd (nI_le (by omega) (by omega)) h2⟩
      refine b_X9_servedBy_65.go C ⟨fun h3 => ⟨trivial, ?_⟩, fun h3 => ⟨trivial, ?_⟩⟩
      · refine b_X9_servedBy_85.go C ⟨trivial, ?_⟩
        refine b_X9_servedBy_86.go C ⟨_, nI_1 t, trivial, ?_⟩
        exact ih (t + 1) acc _ _ (by omega) (by omega) (by rw [hs, srvF, if_neg (fun h => by rw [hp', bI_0 h3] at h; cases h.1)])
      · refine b_X9_servedBy_70.go C ⟨_, hR.1, _, _, hR.2.1 8 (by decide) rfl, t, rfl, hlt, lb rfl, _, rfl, fun h4 => ⟨trivial, ?_⟩, fun h4 => ⟨trivial, ?_⟩⟩
        · refine b_X9_servedBy_85.go C ⟨trivial, ?_⟩
          refine b_X9_servedBy_86.go C ⟨_, nI_1 t, trivial, ?_⟩
          exact ih (t + 1) acc _ _ (by omega) (by omega) (by rw [hs, srvF, if_neg (fun h => h4 h.2)])
        · refine b_X9_servedBy_79.go C ⟨_, nI_1 acc, trivial, ?_⟩
          refine b_X9_servedBy_86.go C ⟨_, nI_1 t, trivial, ?_⟩
          exact ih (t + 1) (acc + 1) _ _ (by omega) (by omega) (by rw [hs, srvF, if_pos ⟨by rw [hp', bI_1 h3], h4⟩])
    | succ w ihw =>
      intro j a hw hp
      refine b_X9_servedBy_20.go C ⟨_, hR.1, _, _, hR.2.1 4 (by decide) rfl, t, rfl, hlt, lb rfl, _, hk, fun h2 => absurd ((nI_leI (by omega) (by omega)).mp h2) (by omega), fun h2 => ⟨trivial, ?_⟩⟩
      refine b_X9_servedBy_31.go C ⟨fun h3 => ⟨trivial, ?_⟩, fun h3 => ⟨trivial, ?_⟩⟩
      · refine b_X9_servedBy_52.go C ⟨trivial, ?_⟩
        refine b_X9_servedBy_57.go C ⟨_, nI_1 j, trivial, ?_⟩
        exact ihw (j + 1) true (by omega) (by rw [hp, anyI, bI_1 h3, Bool.true_or])
      · refine b_X9_servedBy_36.go C ⟨_, hR.1, _, pk_mul 24 t, _, nI_add _ _, _, _, hR.2.1 3 (by decide) rfl, 24 * t + j, rfl, by show 24 * t + j < 4824; omega, lb rfl, _, rfl, fun h4 => ⟨trivial, ?_⟩, fun h4 => ⟨trivial, ?_⟩⟩
        · refine b_X9_servedBy_56.go C ⟨trivial, ?_⟩
          refine b_X9_servedBy_57.go C ⟨_, nI_1 j, trivial, ?_⟩
          exact ihw (j + 1) false (by omega) (by rw [hp, anyI, bI_0 h3, decide_eq_false h4]; rfl)
        · refine b_X9_servedBy_52.go C ⟨trivial, ?_⟩
          refine b_X9_servedBy_57.go C ⟨_, nI_1 j, trivial, ?_⟩
          exact ihw (j + 1) true (by omega) (by rw [hp, anyI, bI_0 h3, decide_eq_true h4]; rfl)
theorem r_isServed (d : Nat) (G : GH) (x : Nat) (ra : Nat → Nat) (M : MS) (u n : Nat) (hR : RR G x ra M) (hn : M 1 0 = nI n) (hn2 : n ≤ 200) (hu : u ≤ n) (hI : ∀ t, t ≤ n → inOk M t) : Cd l yX9_isServed cX9_isServed 2 (some .boolean) (d + 1) 0 0 Y [.inr (.inr (some x)), .inl (nI u)] G (fun r G' => G' = G ∧ r = some (.inl (bI (decide (0 < srvN M u))))) := by
  refine Ct.of (ini := False) (by decide +kernel) False.elim rfl (Nat.le_of_ble_eq_true rfl) ?_
  intro p e s m args below meth c C X
  have hle : srvN M u ≤ 200 := by
    have := srvF_le M u (nN M 1 0 - u) (u + 1) 0
    rw [nN_of hn (by omega)] at this
    rw [srvN, nN_of hn (by omega)]; omega
  refine b_X9_isServed_0.go C ⟨trivial, ?_⟩
  refine k_X9_isServed_2.go C X (r_servedBy d G x ra M u n hR hn hn2 hu hI) (rest := []) rfl rfl rfl (fun _ => ⟨x, 9, _, rfl, hR.1, by decide⟩) (Nat.zero_le _) (Rq.of (Nat.le_refl _) (by decide) (Nat.le_refl _) (Nat.le_refl _)) ?_
  rintro r G' ⟨rfl, rfl⟩
  refine b_X9_isServed_5.go C ⟨fun h1 => ⟨trivial, ?_⟩, fun h1 => ⟨trivial, ?_⟩⟩
  · refine b_X9_isServed_12.go C ⟨trivial, ?_⟩
    exact V_zret C X d_X9_isServed_13 z0 (Nat.zero_le _) (Nat.zero_le _) ⟨rfl, by rw [decide_eq_false (fun h => nI_nle h (by omega) h1)]; rfl⟩
  · refine b_X9_isServed_8.go C ⟨trivial, ?_⟩
    exact V_zret C X d_X9_isServed_13 z1 (Nat.zero_le _) (Nat.zero_le _) ⟨rfl, by rw [decide_eq_true (Nat.pos_of_ne_zero (fun h => h1 (by rw [h, nI_0]; decide +kernel)))]; rfl⟩
/-- does s count: it has ended, and, unless all ways count, without a value -/
def fstB (M : MS) (wh : Bool) (s : Nat) : Bool := decide (¬ M 8 s = 0 ∧ (wh = true ∨ ¬ M 8 s = nI 1))
/-- of t's inputs from j on (q of them) the one of the lowest place that counts; fd: the best so far, 0 none -/
def fstF (M : MS) (t : Nat) (wh : Bool) : Nat → Nat → Nat → Nat
  | 0, _, fd => fd
  | q + 1, j, fd => fstF M t wh q (j + 1) (if fstB M wh (iN M t j) = true ∧ (fd = 0 ∨ M 10 (iN M t j) < M 10 fd) then iN M t j else fd)
def fstN (M : MS) (t : Nat) (wh : Bool) : Nat := fstF M t wh (kI M t) 0 0
def whI (wh : Bool) : Int32 := match wh with | true => (-1) | false => nI 0
theorem fstF_le {M : MS} {t : Nat} {wh : Bool} (h : inOk M t) : ∀ (q j fd : Nat), j + q ≤ kI M t → fd ≤ 200 → fstF M t wh q j fd ≤ 200
  | 0, _, _, _, hf => hf
  | q + 1, j, fd, hj, hf => by
    rw [fstF]
    refine fstF_le h q (j + 1) _ (by omega) ?_
    split
    · exact (h.2.2.2 j (by omega)).2.2
    · exact hf
set_option maxHeartbeats 1000000 in
theorem r_firstOf (d : Nat) (G : GH) (x : Nat) (ra : Nat → Nat) (M : MS) (t : Nat) (wh : Bool) (hR : RR G x ra M) (hI : inOk M t) : Cd l yX9_firstOf cX9_firstOf 7 (some .int) d 0 0 Y [.inr (.inr (some x)), .inl (nI t), .inl (whI wh)] G (fun r G' => G' = G ∧ r = some (.inl (nI (fstN M t wh)))) := by
  refine Ct.of (ini := False) (by decide +kernel) False.elim rfl (Nat.le_of_ble_eq_true rfl) ?_
  intro p e s m args below meth c C X
  obtain ⟨ht2, hk, hk2, hj9⟩ := hI
  have hlt : t < 201 := by omega
  refine b_X9_firstOf_0.go C ⟨trivial, ?_⟩
  refine (show ∀ (q j fd : Nat) (o5 o6 : Option AV), j + q = kI M t → fd ≤ 200 → fstN M t wh = fstF M t wh q j fd → V p l e _ s m args below meth c Y _ _ 5 G 0 0 [some (.inr (.inr (some x))), some (.inl (nI t)), some (.inl (whI wh)), some (.inl (nI fd)), some (.inl (nI j)), o5, o6] [] from ?_) (kI M t) 0 0 none none (by omega) (by omega) rfl
  intro q
  induction q with
  | zero =>
    intro j fd o5 o6 hj hf hs
    refine b_X9_firstOf_5.go C ⟨_, hR.1, _, _, hR.2.1 4 (by decide) rfl, t, rfl, hlt, lb rfl, _, hk, fun h1 => ⟨trivial, ?_⟩, fun h1 => absurd (nI_le (by omega) (by omega)) h1⟩
    refine b_X9_firstOf_101.go C ⟨trivial, ?_⟩
    exact V_iret C X d_X9_firstOf_102 (Nat.zero_le _) (Nat.zero_le _) ⟨rfl, by rw [hs, fstF]⟩
  | succ q ih =>
    intro j fd o5 o6 hj hf hs
    obtain ⟨hi, hi1, hi2⟩ := hj9 j (by omega)
    have hli : iN M t j < 201 := by omega
    have next : ∀ (z : Nat) (b : Bool), z = (if fstB M wh (iN M t j) = true ∧ (fd = 0 ∨ M 10 (iN M t j) < M 10 fd) then iN M t j else fd) → V p l e (RM d 0 0) s m args below meth c Y (GA G s.heap.size) (QM below args s (RM d 0 0) Y G (fun r G' => G' = G ∧ r = some (.inl (nI (fstN M t wh))))) 94 G 0 0 [some (.inr (.inr (some x))), some (.inl (nI t)), some (.inl (whI wh)), some (.inl (nI fd)), some (.inl (nI j)), some (.inl (nI (iN M t j))), some (.inl (bI b))] [.inl (nI z)] := by
      intro z b hz
      refine b_X9_firstOf_94.go C ⟨_, nI_1 j, trivial, ?_⟩
      exact ih (j + 1) z _ _ (by omega) (by rw [hz]; split <;> omega) (by rw [hs, fstF, ← hz])
    have test : ∀ b : Bool, b = fstB M wh (iN M t j) → V p l e (RM d 0 0) s m args below meth c Y (GA G s.heap.size) (QM below args s (RM d 0 0) Y G (fun r G' => G' = G ∧ r = some (.inl (nI (fstN M t wh))))) 61 G 0 0 [some (.inr (.inr (some x))), some (.inl (nI t)), some (.inl (whI wh)), some (.inl (nI fd)), some (.inl (nI j)), some (.inl (nI (iN M t j))), o6] [.inl (bI b)] := by
      intro b hb
      refine b_X9_firstOf_61.go C ⟨fun h1 => ⟨trivial, ?_⟩, fun h1 => ⟨trivial, ?_⟩⟩
      · refine b_X9_firstOf_93.go C ⟨trivial, ?_⟩
        exact next fd b (by rw [if_neg (fun h => by rw [← hb, bI_0 h1] at h; cases h.1)])
      · refine b_X9_firstOf_68.go C ⟨fun h2 => ⟨trivial, ?_⟩, fun h2 => ⟨trivial, ?_⟩⟩
        · refine b_X9_firstOf_88.go C ⟨trivial, ?_⟩
          exact next _ b (by rw [if_pos ⟨by rw [← hb, bI_1 h1], Or.inl ((nI_eq (by omega) (by omega)).mp (h2.trans nI_0.symm))⟩])
        · refine b_X9_firstOf_72.go C ⟨_, hR.1, _, _, hR.2.1 10 (by decide) rfl, iN M t j, rfl, hli, lb rfl, _, rfl, _, hR.1, _, _, hR.2.1 10 (by decide) rfl, fd, rfl, by show fd < 201; omega, lb rfl, _, rfl, fun h3 => ⟨trivial, ?_⟩, fun h3 => ⟨trivial, ?_⟩⟩
          · refine b_X9_firstOf_93.go C ⟨trivial, ?_⟩
            exact next fd b (by rw [if_neg (fun h => h.2.elim (fun z => h2 (by rw [z]; exact nI_0)) (fun z => absurd z (Int32.not_lt.mpr h3)))])
          · refine b_X9_firstOf_88.go C ⟨trivial, ?_⟩
            exact next _ b (by rw [if_pos ⟨by rw [← hb, bI_1 h1], Or.inr (Int32.not_le.mp h3)⟩])
    refine b_X9_firstOf_5.go C ⟨_, hR.1, _, _, hR.2.1 4 (by decide) rfl, t, rfl, hlt, lb rfl, _, hk, fun h1 => absurd ((nI_leI (by omega) (by omega)).mp h1) (by omega), fun h1 => ⟨trivial, ?_⟩⟩
    refine b_X9_firstOf_16.go C ⟨_, hR.1, _, pk_mul 24 t, _, nI_add _ _, _, _, hR.2.1 3 (by decide) rfl, 24 * t + j, rfl, by show 24 * t + j < 4824; omega, lb rfl, _, hi, _, hR.1, _, _, hR.2.1 8 (by decide) rfl, iN M t j, rfl, hli, lb rfl, _, rfl, fun h2 => ⟨trivial, ?_⟩, fun h2 => ⟨trivial, ?_⟩⟩
    · refine b_X9_firstOf_60.go C ⟨trivial, ?_⟩
      exact test false (decide_eq_false (fun h => h.1 h2)).symm
    · cases wh with
      | true =>
        refine b_X9_firstOf_40.go C ⟨fun h3 => ⟨trivial, ?_⟩, fun h3 => absurd rfl h3⟩
        refine b_X9_firstOf_56.go C ⟨trivial, ?_⟩
        exact test true (decide_eq_true ⟨h2, Or.inl rfl⟩).symm
      | false =>
        refine b_X9_firstOf_40.go C ⟨fun h3 => absurd h3 (by decide +kernel), fun h3 => ⟨trivial, ?_⟩⟩
        refine b_X9_firstOf_45.go C ⟨_, hR.1, _, _, hR.2.1 8 (by decide) rfl, iN M t j, rfl, hli, lb rfl, _, rfl, fun h4 => ⟨trivial, ?_⟩, fun h4 => ⟨trivial, ?_⟩⟩
        · refine b_X9_firstOf_60.go C ⟨trivial, ?_⟩
          exact test false (decide_eq_false (fun h => h.2.elim (fun z => by cases z) (fun z => z h4))).symm
        · refine b_X9_firstOf_56.go C ⟨trivial, ?_⟩
          exact test true (decide_eq_true ⟨h2, Or.inr h4⟩).symm
end REFF
