/-! LEAVES: contracts of the small methods -/
section LEAF
variable {l : Launch} {Y : YT}
theorem z0 : nI 0 = 0 ∨ nI 0 = 1 := Or.inl nI_0
theorem z1 : nI 1 = 0 ∨ nI 1 = 1 := Or.inr (by decide +kernel)
theorem c_isWithin (d : Nat) (G : GH) (x a b : Int32) : Cd l yX8_isWithin cX8_isWithin 3 (some .boolean) d 0 0 Y [.inl x, .inl a, .inl b] G (fun r G' => G' = G ∧ r = some (.inl (if a ≤ x ∧ x ≤ b then nI 1 else nI 0))) := by
  refine Ct.of (ini := False) (by decide +kernel) False.elim rfl (Nat.le_of_ble_eq_true rfl) ?_
  intro p e s m args below meth c C X
  refine b_X8_isWithin_0.go C ⟨fun h1 => ⟨trivial, ?_⟩, fun h1 => ⟨trivial, ?_⟩⟩
  · refine b_X8_isWithin_14.go C ⟨trivial, ?_⟩
    exact V_zret C X d_X8_isWithin_15 z0 (Nat.zero_le _) (Nat.zero_le _) ⟨rfl, by rw [if_neg (fun h => absurd h.1 (Int32.not_le.mpr h1))]⟩
  · refine b_X8_isWithin_5.go C ⟨fun h2 => ⟨trivial, ?_⟩, fun h2 => ⟨trivial, ?_⟩⟩
    · refine b_X8_isWithin_14.go C ⟨trivial, ?_⟩
      exact V_zret C X d_X8_isWithin_15 z0 (Nat.zero_le _) (Nat.zero_le _) ⟨rfl, by rw [if_neg (fun h => absurd h.2 (Int32.not_le.mpr h2))]⟩
    · refine b_X8_isWithin_10.go C ⟨trivial, ?_⟩
      exact V_zret C X d_X8_isWithin_15 z1 (Nat.zero_le _) (Nat.zero_le _) ⟨rfl, by rw [if_pos ⟨Int32.not_lt.mp h1, Int32.not_lt.mp h2⟩]⟩
/-- the fields of a stage by their places: ints σ, references ρ; a work has thirteen more -/
def stL (w : Bool) (σ : Nat → Int32) (ρ : Nat → Option Nat) : List AV :=
  .inl (σ 0) :: .inl (σ 1) :: .inr (.inr (ρ 2)) :: .inl (σ 3) :: .inl (σ 4) :: .inr (.inr (ρ 5)) :: .inl (σ 6) :: .inl (σ 7) :: .inr (.inr (ρ 8)) :: .inl (σ 9) :: .inl (σ 10) :: .inl (σ 11) :: .inl (σ 12) ::
    (match w with | false => [] | true => [.inl (σ 13), .inl (σ 14), .inl (σ 15), .inl (σ 16), .inl (σ 17), .inl (σ 18), .inl (σ 19), .inl (σ 20), .inr (.inr (ρ 21)), .inl (σ 22), .inl (σ 23), .inr (.inr (ρ 24)), .inr (.inr (ρ 25))])
def stI (w : Bool) : Nat := match w with | false => 6 | true => 7
/-- the cell of a stage (class 6) or a work (class 7) -/
def stC (w : Bool) (σ : Nat → Int32) (ρ : Nat → Option Nat) : AC := .inr (stI w, stL w σ ρ)
theorem stC_ci (w : Bool) : stI w = 6 ∨ stI w = 7 := by cases w <;> decide
theorem stC_in (w : Bool) : stI w ∈ [6, 7] := by cases w <;> decide
theorem c_hasEnded (d : Nat) (G : GH) (a : Nat) (w : Bool) (σ : Nat → Int32) (ρ : Nat → Option Nat) (ha : G a = some (stC w σ ρ)) : Cd l yX6_hasEnded cX6_hasEnded 1 (some .boolean) d 0 0 Y [.inr (.inr (some a))] G (fun r G' => G' = G ∧ r = some (.inl (if nI 5 ≤ σ 6 then nI 1 else nI 0))) := by
  refine Ct.of (ini := False) (by decide +kernel) False.elim rfl (Nat.le_of_ble_eq_true rfl) ?_
  intro p e s m args below meth c C X
  refine b_X6_hasEnded_0.go C ⟨_, _, ha, stC_ci w, fun h1 => ⟨trivial, ?_⟩, fun h1 => ⟨trivial, ?_⟩⟩
  · refine b_X6_hasEnded_12.go C ⟨trivial, ?_⟩
    exact V_zret C X d_X6_hasEnded_13 z0 (Nat.zero_le _) (Nat.zero_le _) ⟨rfl, by rw [if_neg (Int32.not_le.mpr h1)]⟩
  · refine b_X6_hasEnded_8.go C ⟨trivial, ?_⟩
    exact V_zret C X d_X6_hasEnded_13 z1 (Nat.zero_le _) (Nat.zero_le _) ⟨rfl, by rw [if_pos (Int32.not_lt.mp h1)]⟩
theorem c_gain (d : Nat) (G : GH) (a : Nat) (w : Bool) (σ : Nat → Int32) (ρ : Nat → Option Nat) (x : Int32) (ha : G a = some (stC w σ ρ)) : Cd l yX6_gain cX6_gain 2 none d 0 0 Y [.inr (.inr (some a)), .inl x] G (fun r G' => r = none ∧ G' = va_up G a (some (stC w (upd (upd σ 6 (nI 5)) 7 x) ρ))) := by
  refine Ct.of (ini := False) (by decide +kernel) False.elim rfl (Nat.le_of_ble_eq_true rfl) ?_
  intro p e s m args below meth c C X
  refine b_X6_gain_0.go C ⟨_, _, ha, stC_ci w, _, _, if_pos rfl, stC_ci w, trivial, ?_⟩
  exact V_vret C X d_X6_gain_10 (Nat.zero_le _) (Nat.zero_le _) ⟨rfl, by rw [bx_uu]; rfl⟩
theorem c_fail (d : Nat) (G : GH) (a : Nat) (w : Bool) (σ : Nat → Int32) (ρ : Nat → Option Nat) (f : Option Nat) (ha : G a = some (stC w σ ρ)) : Cd l yX6_fail cX6_fail 2 none d 0 0 Y [.inr (.inr (some a)), .inr (.inr f)] G (fun r G' => r = none ∧ G' = va_up G a (some (stC w (upd σ 6 (nI 6)) (va_up ρ 8 f)))) := by
  refine Ct.of (ini := False) (by decide +kernel) False.elim rfl (Nat.le_of_ble_eq_true rfl) ?_
  intro p e s m args below meth c C X
  refine b_X6_fail_0.go C ⟨_, _, ha, stC_ci w, _, _, if_pos rfl, stC_ci w, trivial, ?_⟩
  exact V_vret C X d_X6_fail_11 (Nat.zero_le _) (Nat.zero_le _) ⟨rfl, by rw [bx_uu]; rfl⟩
theorem c_dismiss (d : Nat) (G : GH) (a : Nat) (w : Bool) (σ : Nat → Int32) (ρ : Nat → Option Nat) (ha : G a = some (stC w σ ρ)) : Cd l yX6_dismiss cX6_dismiss 1 none d 0 0 Y [.inr (.inr (some a))] G (fun r G' => r = none ∧ G' = va_up G a (some (stC w (upd σ 6 (nI 7)) ρ))) := by
  refine Ct.of (ini := False) (by decide +kernel) False.elim rfl (Nat.le_of_ble_eq_true rfl) ?_
  intro p e s m args below meth c C X
  refine b_X6_dismiss_0.go C ⟨_, _, ha, stC_ci w, trivial, ?_⟩
  exact V_vret C X d_X6_dismiss_6 (Nat.zero_le _) (Nat.zero_le _) ⟨rfl, rfl⟩
theorem c_endAs (d : Nat) (G : GH) (a b : Nat) (w w' : Bool) (σ σ' : Nat → Int32) (ρ ρ' : Nat → Option Nat) (hne : b ≠ a) (ha : G a = some (stC w σ ρ)) (hb : G b = some (stC w' σ' ρ')) : Cd l yX6_endAs cX6_endAs 2 none d 0 0 Y [.inr (.inr (some a)), .inr (.inr (some b))] G (fun r G' => r = none ∧ G' = va_up G a (some (stC w (upd (upd σ 6 (σ' 6)) 7 (σ' 7)) (va_up ρ 8 (ρ' 8))))) := by
  refine Ct.of (ini := False) (by decide +kernel) False.elim rfl (Nat.le_of_ble_eq_true rfl) ?_
  intro p e s m args below meth c C X
  refine b_X6_endAs_0.go C ⟨_, _, hb, stC_ci w', _, _, ha, stC_ci w, _, _, (if_neg hne).trans hb, stC_ci w', _, _, if_pos rfl, stC_ci w, _, _, (if_neg hne).trans ((if_neg hne).trans hb), stC_ci w', _, _, if_pos rfl, stC_ci w, trivial, ?_⟩
  exact V_vret C X d_X6_endAs_24 (Nat.zero_le _) (Nat.zero_le _) ⟨rfl, by rw [bx_uu, bx_uu]; rfl⟩
theorem c_firstInput (d : Nat) (G : GH) (a ia N : Nat) (w : Bool) (σ : Nat → Int32) (ρ f : Nat → Option Nat) (ha : G a = some (stC w σ ρ)) (hia : ρ 2 = some ia) (hI : G ia = some (.inl (5, N, .inr (.inr (.inr (.inr f)))))) (hN : N ≤ 100000) : Cd l yX6_firstInput cX6_firstInput 1 (some (.object "PromiseKitchen$Stage")) d 0 0 Y [.inr (.inr (some a))] G (fun r G' => G' = G ∧ r = some (.inr (.inr (if N = 0 then some a else f 0)))) := by
  refine Ct.of (ini := False) (by decide +kernel) False.elim rfl (Nat.le_of_ble_eq_true rfl) ?_
  intro p e s m args below meth c C X
  simp only [stC, stL, hia] at ha
  refine b_X6_firstInput_0.go C ⟨_, _, ha, stC_ci w, N, Or.inl ⟨5, _, by decide, hI⟩, fun h1 => ⟨trivial, ?_⟩, fun h1 => ⟨trivial, ?_⟩⟩
  · have hN0 : N ≠ 0 := fun h => h1 (by rw [h]; exact nI_0)
    refine b_X6_firstInput_12.go C ⟨_, _, ha, stC_ci w, N, f, hI, 0, rfl, by omega, hN, _, rfl, trivial, ?_⟩
    exact V_aret C X (Or.inl ⟨_, rfl⟩) d_X6_firstInput_18 (Nat.zero_le _) (Nat.zero_le _) ⟨rfl, by rw [if_neg hN0]⟩
  · have hN0 : N = 0 := (nI_eq (by omega) (by omega)).mp (h1.trans nI_0.symm)
    refine b_X6_firstInput_8.go C ⟨trivial, ?_⟩
    exact V_aret C X (Or.inl ⟨_, rfl⟩) d_X6_firstInput_18 (Nat.zero_le _) (Nat.zero_le _) ⟨rfl, by rw [if_pos hN0]⟩
theorem c_lastInput (d : Nat) (G : GH) (a ia N : Nat) (w : Bool) (σ : Nat → Int32) (ρ f : Nat → Option Nat) (ha : G a = some (stC w σ ρ)) (hia : ρ 2 = some ia) (hI : G ia = some (.inl (5, N, .inr (.inr (.inr (.inr f)))))) (hN : N ≤ 100000) : Cd l yX6_lastInput cX6_lastInput 1 (some (.object "PromiseKitchen$Stage")) d 0 0 Y [.inr (.inr (some a))] G (fun r G' => G' = G ∧ r = some (.inr (.inr (if N = 0 then some a else f (N - 1))))) := by
  refine Ct.of (ini := False) (by decide +kernel) False.elim rfl (Nat.le_of_ble_eq_true rfl) ?_
  intro p e s m args below meth c C X
  simp only [stC, stL, hia] at ha
  refine b_X6_lastInput_0.go C ⟨_, _, ha, stC_ci w, N, Or.inl ⟨5, _, by decide, hI⟩, fun h1 => ⟨trivial, ?_⟩, fun h1 => ⟨trivial, ?_⟩⟩
  · have hN0 : N ≠ 0 := fun h => h1 (by rw [h]; exact nI_0)
    refine b_X6_lastInput_12.go C ⟨_, _, ha, stC_ci w, _, _, ha, stC_ci w, N, Or.inl ⟨5, _, by decide, hI⟩, _, pk_sub (by omega), N, f, hI, N - 1, rfl, by omega, hN, _, rfl, trivial, ?_⟩
    exact V_aret C X (Or.inl ⟨_, rfl⟩) d_X6_lastInput_24 (Nat.zero_le _) (Nat.zero_le _) ⟨rfl, by rw [if_neg hN0]⟩
  · have hN0 : N = 0 := (nI_eq (by omega) (by omega)).mp (h1.trans nI_0.symm)
    refine b_X6_lastInput_8.go C ⟨trivial, ?_⟩
    exact V_aret C X (Or.inl ⟨_, rfl⟩) d_X6_lastInput_24 (Nat.zero_le _) (Nat.zero_le _) ⟨rfl, by rw [if_pos hN0]⟩
end LEAF
