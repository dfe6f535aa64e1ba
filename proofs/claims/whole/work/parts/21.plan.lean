/-! isUnder, the plan -/
section LEAF2
variable {l : Launch} {Y : YT}
/-- is the kind k under a (both small)? -/
def und (k a : Nat) : Bool := if h : a < k then und ((k - 1) / 2) a else k == a
termination_by k
decreasing_by omega
theorem und_s {k a : Nat} (h : a < k) : und k a = und ((k - 1) / 2) a := by rw [und, dif_pos h]
theorem und_e {k a : Nat} (h : ¬ a < k) : und k a = (k == a) := by rw [und, dif_neg h]
def bI (b : Bool) : Int32 := match b with | true => nI 1 | false => nI 0
theorem bI_z (b : Bool) : bI b = 0 ∨ bI b = 1 := match b with | false => z0 | true => z1
theorem c_isUnder (d : Nat) (G : GH) (k a : Nat) (hk : k ≤ 15) (ha : a ≤ 15) : Cd l yX2_isUnder cX2_isUnder 3 (some .boolean) d 0 0 Y [.inl (nI k), .inl (nI a)] G (fun r G' => G' = G ∧ r = some (.inl (bI (und k a)))) := by
  refine Ct.of (ini := False) (by decide +kernel) False.elim rfl (Nat.le_of_ble_eq_true rfl) ?_
  intro p e s m args below meth c C X
  refine b_X2_isUnder_0.go C ⟨trivial, ?_⟩
  refine (show ∀ (n j : Nat), j ≤ n → j ≤ 15 → und k a = und j a → V p l e _ s m args below meth c Y _ _ 2 G 0 0 [some (.inl (nI k)), some (.inl (nI a)), some (.inl (nI j))] [] from ?_) k k (Nat.le_refl k) hk rfl
  intro n
  induction n with
  | zero =>
    intro j hj hj2 hu
    obtain rfl : j = 0 := by omega
    refine b_X2_isUnder_2.go C ⟨fun h1 => ⟨trivial, ?_⟩, fun h1 => absurd (nI_le (Nat.zero_le a) (by omega)) h1⟩
    refine b_X2_isUnder_20.go C ⟨fun h2 => ⟨trivial, ?_⟩, fun h2 => ⟨trivial, ?_⟩⟩
    · refine b_X2_isUnder_29.go C ⟨trivial, ?_⟩
      exact V_zret C X d_X2_isUnder_30 z0 (Nat.zero_le _) (Nat.zero_le _) ⟨rfl, by rw [hu, und_e (by omega), show ((0 : Nat) == a) = false from by simpa using fun h => h2 (by rw [← h])]; rfl⟩
    · refine b_X2_isUnder_25.go C ⟨trivial, ?_⟩
      exact V_zret C X d_X2_isUnder_30 z1 (Nat.zero_le _) (Nat.zero_le _) ⟨rfl, by rw [hu, und_e (by omega), show ((0 : Nat) == a) = true from by simpa using (nI_eq (by omega) (by omega)).mp h2]; rfl⟩
  | succ n ih =>
    intro j hj hj2 hu
    refine b_X2_isUnder_2.go C ⟨fun h1 => ⟨trivial, ?_⟩, fun h1 => ⟨trivial, ?_⟩⟩
    · have h1' : j ≤ a := (nI_leI (by omega) (by omega)).mp h1
      refine b_X2_isUnder_20.go C ⟨fun h2 => ⟨trivial, ?_⟩, fun h2 => ⟨trivial, ?_⟩⟩
      · refine b_X2_isUnder_29.go C ⟨trivial, ?_⟩
        exact V_zret C X d_X2_isUnder_30 z0 (Nat.zero_le _) (Nat.zero_le _) ⟨rfl, by rw [hu, und_e (by omega), show (j == a) = false from by simpa using fun h => h2 (by rw [← h])]; rfl⟩
      · refine b_X2_isUnder_25.go C ⟨trivial, ?_⟩
        exact V_zret C X d_X2_isUnder_30 z1 (Nat.zero_le _) (Nat.zero_le _) ⟨rfl, by rw [hu, und_e (by omega), show (j == a) = true from by simpa using (nI_eq (by omega) (by omega)).mp h2]; rfl⟩
    · have h1' : a < j := Nat.lt_of_not_le (fun h => h1 (nI_le h (by omega)))
      refine b_X2_isUnder_7.go C ⟨fun h2 => absurd h2 (nI_nle (by omega) (by omega)), fun h2 => ⟨trivial, ?_⟩⟩
      refine b_X2_isUnder_11.go C ⟨nI (j - 1), pk_sub (by omega), by decide +kernel, nI ((j - 1) / 2), pk_div (by omega) (by decide) (by decide), trivial, ?_⟩
      exact ih ((j - 1) / 2) (by omega) (by omega) (by rw [hu, und_s h1'])
/-- the first of n rows that holds (w, t), or n -/
def prow (fw ft : Nat → Int32) (w t : Int32) : Nat → Nat → Nat
  | 0, i => i
  | k + 1, i => if fw i = w ∧ ft i = t then i else prow fw ft w t k (i + 1)
/-- the plan's cells -/
def plG (G : GH) (pa wa ta ka n : Nat) (fw ft fk : Nat → Int32) : Prop := G pa = some (.inr (5, [.inr (.inr (some wa)), .inr (.inr (some ta)), .inr (.inr (some ka)), .inl (nI n)])) ∧ G wa = some (.inl (0, 64, .inl fw)) ∧ G ta = some (.inl (0, 64, .inl ft)) ∧ G ka = some (.inl (0, 64, .inl fk)) ∧ n ≤ 64
theorem c_rowOf (d : Nat) (G : GH) (pa wa ta ka n : Nat) (fw ft fk : Nat → Int32) (w t : Int32) (h : plG G pa wa ta ka n fw ft fk) : Cd l yX4_rowOf cX4_rowOf 4 (some .int) d 0 0 Y [.inr (.inr (some pa)), .inl w, .inl t] G (fun r G' => G' = G ∧ r = some (.inl (nI (prow fw ft w t n 0)))) := by
  obtain ⟨h0, hw, ht, hk, hn⟩ := h
  refine Ct.of (ini := False) (by decide +kernel) False.elim rfl (Nat.le_of_ble_eq_true rfl) ?_
  intro p e s m args below meth c C X
  refine b_X4_rowOf_0.go C ⟨trivial, ?_⟩
  refine (show ∀ (k i : Nat), i + k = n → prow fw ft w t n 0 = prow fw ft w t k i → V p l e _ s m args below meth c Y _ _ 2 G 0 0 [some (.inr (.inr (some pa))), some (.inl w), some (.inl t), some (.inl (nI i))] [] from ?_) n 0 (by omega) rfl
  intro k
  induction k with
  | zero =>
    intro i hi hp
    refine b_X4_rowOf_2.go C ⟨_, h0, fun h1 => ⟨trivial, ?_⟩, fun h1 => absurd (nI_le (by omega) (by omega)) h1⟩
    refine b_X4_rowOf_38.go C ⟨_, h0, trivial, ?_⟩
    exact V_iret C X d_X4_rowOf_42 (Nat.zero_le _) (Nat.zero_le _) ⟨rfl, by rw [hp, prow, show i = n by omega]⟩
  | succ k ih =>
    intro i hi hp
    refine b_X4_rowOf_2.go C ⟨_, h0, fun h1 => absurd ((nI_leI (by omega) (by omega)).mp h1) (by omega), fun h1 => ⟨trivial, ?_⟩⟩
    refine b_X4_rowOf_10.go C ⟨_, h0, _, _, hw, i, rfl, by omega, by decide, _, rfl, fun h2 => ⟨trivial, ?_⟩, fun h2 => ⟨trivial, ?_⟩⟩
    · refine b_X4_rowOf_32.go C ⟨_, nI_1 i, trivial, ?_⟩
      exact ih (i + 1) (by omega) (by rw [hp, prow, if_neg (fun h => h2 h.1)])
    · refine b_X4_rowOf_20.go C ⟨_, h0, _, _, ht, i, rfl, by omega, by decide, _, rfl, fun h3 => ⟨trivial, ?_⟩, fun h3 => ⟨trivial, ?_⟩⟩
      · refine b_X4_rowOf_32.go C ⟨_, nI_1 i, trivial, ?_⟩
        exact ih (i + 1) (by omega) (by rw [hp, prow, if_neg (fun h => h3 h.2)])
      · refine b_X4_rowOf_30.go C ⟨trivial, ?_⟩
        exact V_iret C X d_X4_rowOf_31 (Nat.zero_le _) (Nat.zero_le _) ⟨rfl, by rw [hp, prow, if_pos ⟨h2, h3⟩]⟩
end LEAF2
