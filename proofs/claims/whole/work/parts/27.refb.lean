/-! the reference's searches -/
section REFB
variable {l : Launch} {Y : YT}
theorem bI_0 {b : Bool} (h : bI b = 0) : b = false := match b, h with | false, _ => rfl | true, h => absurd h (by decide +kernel)
theorem bI_1 {b : Bool} (h : ¬ bI b = 0) : b = true := match b, h with | false, h => absurd nI_0 h | true, _ => rfl
theorem r_isUnder (d : Nat) (G : GH) (k a : Nat) (hk : k ≤ 15) (ha : a ≤ 15) : Cd l yX9_isUnder cX9_isUnder 3 (some .boolean) d 0 0 Y [.inl (nI k), .inl (nI a)] G (fun r G' => G' = G ∧ r = some (.inl (bI (und k a)))) := by
  refine Ct.of (ini := False) (by decide +kernel) False.elim rfl (Nat.le_of_ble_eq_true rfl) ?_
  intro p e s m args below meth c C X
  refine b_X9_isUnder_0.go C ⟨trivial, ?_⟩
  refine (show ∀ (n j : Nat), j ≤ n → j ≤ 15 → und k a = und j a → V p l e _ s m args below meth c Y _ _ 2 G 0 0 [some (.inl (nI k)), some (.inl (nI a)), some (.inl (nI j))] [] from ?_) k k (Nat.le_refl k) hk rfl
  intro n
  induction n with
  | zero =>
    intro j hj hj2 hu
    obtain rfl : j = 0 := by omega
    refine b_X9_isUnder_2.go C ⟨fun h1 => ⟨trivial, ?_⟩, fun h1 => absurd (nI_le (Nat.zero_le a) (by omega)) h1⟩
    refine b_X9_isUnder_16.go C ⟨fun h2 => ⟨trivial, ?_⟩, fun h2 => ⟨trivial, ?_⟩⟩
    · refine b_X9_isUnder_25.go C ⟨trivial, ?_⟩
      exact V_zret C X d_X9_isUnder_26 z0 (Nat.zero_le _) (Nat.zero_le _) ⟨rfl, by rw [hu, und_e (by omega), show ((0 : Nat) == a) = false from by simpa using fun h => h2 (by rw [← h])]; rfl⟩
    · refine b_X9_isUnder_21.go C ⟨trivial, ?_⟩
      exact V_zret C X d_X9_isUnder_26 z1 (Nat.zero_le _) (Nat.zero_le _) ⟨rfl, by rw [hu, und_e (by omega), show ((0 : Nat) == a) = true from by simpa using (nI_eq (by omega) (by omega)).mp h2]; rfl⟩
  | succ n ih =>
    intro j hj hj2 hu
    refine b_X9_isUnder_2.go C ⟨fun h1 => ⟨trivial, ?_⟩, fun h1 => ⟨trivial, ?_⟩⟩
    · have h1' : j ≤ a := (nI_leI (by omega) (by omega)).mp h1
      refine b_X9_isUnder_16.go C ⟨fun h2 => ⟨trivial, ?_⟩, fun h2 => ⟨trivial, ?_⟩⟩
      · refine b_X9_isUnder_25.go C ⟨trivial, ?_⟩
        exact V_zret C X d_X9_isUnder_26 z0 (Nat.zero_le _) (Nat.zero_le _) ⟨rfl, by rw [hu, und_e (by omega), show (j == a) = false from by simpa using fun h => h2 (by rw [← h])]; rfl⟩
      · refine b_X9_isUnder_21.go C ⟨trivial, ?_⟩
        exact V_zret C X d_X9_isUnder_26 z1 (Nat.zero_le _) (Nat.zero_le _) ⟨rfl, by rw [hu, und_e (by omega), show (j == a) = true from by simpa using (nI_eq (by omega) (by omega)).mp h2]; rfl⟩
    · have h1' : a < j := Nat.lt_of_not_le (fun h => h1 (nI_le h (by omega)))
      refine b_X9_isUnder_7.go C ⟨nI (j - 1), pk_sub (by omega), by decide +kernel, nI ((j - 1) / 2), pk_div (by omega) (by decide) (by decide), trivial, ?_⟩
      exact ih ((j - 1) / 2) (by omega) (by omega) (by rw [hu, und_s h1'])
/-- one of f j .. f (j + k - 1), or acc -/
def anyI (f : Nat → Bool) : Nat → Nat → Bool → Bool
  | 0, _, acc => acc
  | k + 1, j, acc => anyI f k (j + 1) (acc || f j)
theorem r_isInput (d : Nat) (G : GH) (x : Nat) (ra : Nat → Nat) (M : MS) (t k : Nat) (v : Int32) (hR : RR G x ra M) (ht : t ≤ 200) (hk : M 4 t = nI k) (hk2 : k ≤ 24) : Cd l yX9_isInput cX9_isInput 5 (some .boolean) d 0 0 Y [.inr (.inr (some x)), .inl (nI t), .inl v] G (fun r G' => G' = G ∧ r = some (.inl (bI (anyI (fun j => decide (M 3 (24 * t + j) = v)) k 0 false)))) := by
  refine Ct.of (ini := False) (by decide +kernel) False.elim rfl (Nat.le_of_ble_eq_true rfl) ?_
  intro p e s m args below meth c C X
  have A4 := hR.2.1 4 (by decide) rfl
  have A3 := hR.2.1 3 (by decide) rfl
  refine b_X9_isInput_0.go C ⟨trivial, ?_⟩
  refine (show ∀ (q j : Nat) (a : Bool), j + q = k → anyI (fun j => decide (M 3 (24 * t + j) = v)) k 0 false = anyI (fun j => decide (M 3 (24 * t + j) = v)) q j a → V p l e _ s m args below meth c Y _ _ 5 G 0 0 [some (.inr (.inr (some x))), some (.inl (nI t)), some (.inl v), some (.inl (bI a)), some (.inl (nI j))] [] from ?_) k 0 false (by omega) rfl
  intro q
  induction q with
  | zero =>
    intro j a hj hp
    refine b_X9_isInput_5.go C ⟨_, hR.1, _, _, A4, t, rfl, by show t < 201; omega, lb rfl, _, hk, fun h1 => ⟨trivial, ?_⟩, fun h1 => absurd (nI_le (by omega) (by omega)) h1⟩
    refine b_X9_isInput_48.go C ⟨trivial, ?_⟩
    exact V_zret C X d_X9_isInput_49 (bI_z a) (Nat.zero_le _) (Nat.zero_le _) ⟨rfl, by rw [hp, anyI]⟩
  | succ q ih =>
    intro j a hj hp
    refine b_X9_isInput_5.go C ⟨_, hR.1, _, _, A4, t, rfl, by show t < 201; omega, lb rfl, _, hk, fun h1 => absurd ((nI_leI (by omega) (by omega)).mp h1) (by omega), fun h1 => ⟨trivial, ?_⟩⟩
    refine b_X9_isInput_16.go C ⟨fun h2 => ⟨trivial, ?_⟩, fun h2 => ⟨trivial, ?_⟩⟩
    · have ea := bI_1 h2
      refine b_X9_isInput_36.go C ⟨trivial, ?_⟩
      refine b_X9_isInput_41.go C ⟨_, nI_1 j, trivial, ?_⟩
      exact ih (j + 1) true (by omega) (by rw [hp, anyI, ea, Bool.true_or])
    · have ea := bI_0 h2
      refine b_X9_isInput_20.go C ⟨_, hR.1, _, pk_mul 24 t, _, nI_add _ _, _, _, A3, 24 * t + j, rfl, by show 24 * t + j < 4824; omega, lb rfl, _, rfl, fun h3 => ⟨trivial, ?_⟩, fun h3 => ⟨trivial, ?_⟩⟩
      · refine b_X9_isInput_40.go C ⟨trivial, ?_⟩
        refine b_X9_isInput_41.go C ⟨_, nI_1 j, trivial, ?_⟩
        exact ih (j + 1) false (by omega) (by rw [hp, anyI, ea, decide_eq_false h3]; rfl)
      · refine b_X9_isInput_36.go C ⟨trivial, ?_⟩
        refine b_X9_isInput_41.go C ⟨_, nI_1 j, trivial, ?_⟩
        exact ih (j + 1) true (by omega) (by rw [hp, anyI, ea, decide_eq_true h3]; rfl)
end REFB
