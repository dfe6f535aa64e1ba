/-! ArrayList.remove, clear -/
section LISTR
variable {l : Launch} {Y : YT}
/-- the row f of n without its i-th -/
def rmv (f : Nat → Option Nat) (i n : Nat) : Nat → Option Nat := fun j => if j < i then f j else if j + 1 < n then f (j + 1) else if j + 1 = n then none else f j
theorem rmv_a {f : Nat → Option Nat} {i n : Nat} (h : i + 1 < n) : va_up (va_cpy f f (i + 1) i (n - 1 - i)) (n - 1) none = rmv f i n := by
  funext j
  unfold rmv
  by_cases h1 : j = n - 1
  · subst h1
    rw [up_eq, if_neg (by omega), if_neg (by omega), if_pos (by omega)]
  · rw [up_ne h1]
    by_cases h2 : j < i
    · rw [pk_cpy_out (Or.inl h2), if_pos h2]
    · rw [if_neg h2]
      by_cases h3 : j + 1 < n
      · rw [pk_cpy_in (by omega) (by omega), if_pos h3, show i + 1 + (j - i) = j + 1 by omega]
      · rw [pk_cpy_out (Or.inr (by omega)), if_neg h3, if_neg (by omega)]
theorem rmv_b {f : Nat → Option Nat} {i n : Nat} (h : i + 1 = n) : va_up f (n - 1) none = rmv f i n := by
  funext j
  unfold rmv
  by_cases h1 : j = n - 1
  · subst h1
    rw [up_eq, if_neg (by omega), if_neg (by omega), if_pos (by omega)]
  · rw [up_ne h1]
    by_cases h2 : j < i
    · rw [if_pos h2]
    · rw [if_neg h2, if_neg (by omega), if_neg (by omega)]
theorem c_fastRemove (d : Nat) (G : GH) (la ea n cap i : Nat) (mo : Int32) (f : Nat → Option Nat) (hl : G la = some (alC mo ea n)) (he : G ea = some (oar 6 cap f)) (hi : i < n) (hn : n ≤ cap) (hc : cap ≤ 100000) (hel : ∀ j, j < n → ∀ y, f j = some y → ∃ ci fs, G y = some (.inr (ci, fs)) ∧ ci ∈ [6, 7]) : Cd l yJx4a65c_fastRemove_b59b0 cJx4a65c_fastRemove_b59b0 4 none (d + 1) 0 0 Y [.inr (.inr (some la)), .inr (.inr (some ea)), .inl (nI i)] G (fun r G' => r = none ∧ G' = va_up (va_up G ea (some (oar 6 cap (rmv f i n)))) la (some (alC (mo + nI 1) ea (n - 1)))) := by
  refine Ct.of (ini := False) (by decide +kernel) False.elim rfl (Nat.le_of_ble_eq_true rfl) ?_
  intro p e s m args below meth c C X
  have hle : la ≠ ea := fun z => by rw [z, he] at hl; cases hl
  have hlb : ∀ (y ci : Nat) (fs : List AV), G y = some (.inr (ci, fs)) → ci ∈ [6, 7] → y ≠ la := fun y ci fs h1 h2 z => by rw [z, hl] at h1; cases h1; simp at h2
  have he1 : va_up G la (some (alC (mo + nI 1) ea n)) ea = some (oar 6 cap f) := (up_ne (Ne.symm hle)).trans he
  refine b_Jx4a65c_fastRemove_b59b0_0.go C ⟨_, hl, _, rfl, _, hl, _, up_eq, _, pk_sub (by omega), fun h1 => ⟨trivial, ?_⟩, fun h1 => ⟨trivial, ?_⟩⟩
  · have h2 : i + 1 = n := by have := (nI_leI (by omega) (by omega)).mp h1; omega
    refine b_Jx4a65c_fastRemove_b59b0_34.go C ⟨_, up_eq, (fun y hy => by cases hy), cap, f, (up_ne (Ne.symm hle)).trans he1, n - 1, rfl, by omega, hc, trivial, ?_⟩
    refine V_vret C X d_Jx4a65c_fastRemove_b59b0_43 (Nat.zero_le _) (Nat.zero_le _) ⟨rfl, ?_⟩
    rw [rmv_b h2, bx_uu, up_comm hle]; rfl
  · have h2 : i + 1 < n := by
      rcases Nat.lt_or_ge (i + 1) n with h | h
      · exact h
      · exact absurd (nI_le (by omega) (by omega)) h1
    refine b_Jx4a65c_fastRemove_b59b0_22.go C ⟨_, nI_1 i, _, pk_sub (by omega), trivial, ?_⟩
    refine V_copyq (rest := []) (sp := i + 1) (dp := i) (q := n - 1 - i) (f := f) (g := f) C X qx_acL d_Jx4a65c_fastRemove_b59b0_31 rfl (R40 d _ _) (lb rfl) he1 he1 hc hc (by omega) (by omega) (fun j hj y hy => ?_) ?_
    · obtain ⟨ci, fs, g1, g2⟩ := hel (i + 1 + j) (by omega) y hy
      exact ⟨ci, fs, (up_ne (hlb y ci fs g1 g2)).trans g1, g2⟩
    refine b_Jx4a65c_fastRemove_b59b0_34.go C ⟨_, (up_ne hle).trans up_eq, (fun y hy => by cases hy), cap, _, (up_ne (Ne.symm hle)).trans up_eq, n - 1, rfl, by omega, hc, trivial, ?_⟩
    refine V_vret C X d_Jx4a65c_fastRemove_b59b0_43 (Nat.zero_le _) (Nat.zero_le _) ⟨rfl, ?_⟩
    rw [rmv_a h2, up_comm (Ne.symm hle), bx_uu, bx_uu, up_comm hle]; rfl
theorem c_remove (d : Nat) (G : GH) (la ea n cap i : Nat) (mo : Int32) (f : Nat → Option Nat) (hl : G la = some (alC mo ea n)) (he : G ea = some (oar 6 cap f)) (hi : i < n) (hn : n ≤ cap) (hc : cap ≤ 100000) (hel : ∀ j, j < n → ∀ y, f j = some y → ∃ ci fs, G y = some (.inr (ci, fs)) ∧ ci ∈ [6, 7]) : Cd l yJx4a65c_remove_915e3 cJx4a65c_remove_915e3 4 (some (.object "java/lang/Object")) (d + 2) 0 0 Y [.inr (.inr (some la)), .inl (nI i)] G (fun r G' => r = some (.inr (.inr (f i))) ∧ G' = va_up (va_up G ea (some (oar 6 cap (rmv f i n)))) la (some (alC (mo + nI 1) ea (n - 1)))) := by
  refine Ct.of (ini := False) (by decide +kernel) False.elim rfl (Nat.le_of_ble_eq_true rfl) ?_
  intro p e s m args below meth c C X
  refine b_Jx4a65c_remove_915e3_0.go C ⟨_, hl, trivial, ?_⟩
  refine k_Jx4a65c_remove_915e3_5.go C X (c_checkIndex d G i n hi (by omega)) (rest := []) rfl rfl rfl (fun h => absurd rfl h) (lb rfl) (Rq.of (Nat.le_refl _) (by decide) (Nat.le_refl _) (Nat.le_refl _)) ?_
  rintro r G' ⟨rfl, rfl⟩
  refine b_Jx4a65c_remove_915e3_8.go C ⟨_, hl, cap, f, he, i, rfl, by omega, hc, _, rfl, trivial, ?_⟩
  refine k_Jx4a65c_remove_915e3_21.go C X (c_fastRemove d G' la ea n cap i mo f hl he hi hn hc hel) (rest := []) rfl rfl rfl (fun _ => ⟨la, 0, _, rfl, hl, by decide⟩) (lb rfl) (Rq.of (Nat.le_refl _) (by decide) (Nat.le_refl _) (Nat.le_refl _)) ?_
  rintro r G2 ⟨rfl, rfl⟩
  refine b_Jx4a65c_remove_915e3_24.go C ⟨trivial, ?_⟩
  exact V_aret C X (Or.inl ⟨_, rfl⟩) d_Jx4a65c_remove_915e3_25 (Nat.zero_le _) (Nat.zero_le _) ⟨rfl, rfl⟩
/-- the row f, its first n gone -/
def clr (f : Nat → Option Nat) (n : Nat) : Nat → Option Nat := fun j => if j < n then none else f j
theorem clr_s (f : Nat → Option Nat) (n : Nat) : va_up (clr f n) n none = clr f (n + 1) := by
  funext j
  by_cases h : j = n
  · subst h; rw [up_eq]; unfold clr; rw [if_pos (by omega)]
  · rw [up_ne h]; unfold clr
    by_cases h2 : j < n
    · rw [if_pos h2, if_pos (by omega)]
    · rw [if_neg h2, if_neg (by omega)]
theorem clr_0 (f : Nat → Option Nat) : clr f 0 = f := funext (fun j => if_neg (Nat.not_lt_zero _))
theorem c_clear (d : Nat) (G : GH) (la ea n cap : Nat) (mo : Int32) (f : Nat → Option Nat) (hl : G la = some (alC mo ea n)) (he : alE Y G ea cap f) (hn : n ≤ cap) (hc : cap ≤ 100000) : Cd l yJx4a65c_clear_da8c8 cJx4a65c_clear_da8c8 4 none d 0 0 Y [.inr (.inr (some la))] G (fun r G' => r = none ∧ ((cap = 0 ∧ G' = va_up G la (some (alC (mo + nI 1) ea 0))) ∨ (0 < cap ∧ G' = va_up (va_up G ea (some (oar 6 cap (clr f n)))) la (some (alC (mo + nI 1) ea 0))))) := by
  refine Ct.of (ini := False) (by decide +kernel) False.elim rfl (Nat.le_of_ble_eq_true rfl) ?_
  intro p e s m args below meth c C X
  refine b_Jx4a65c_clear_da8c8_0.go C ⟨_, hl, _, rfl, _, hl, _, up_eq, _, up_eq, _, up_eq, trivial, ?_⟩
  rw [bx_uu]
  rcases he with ⟨h0, h1⟩ | ⟨he, hpos⟩
  · obtain rfl : n = 0 := by omega
    refine b_Jx4a65c_clear_da8c8_27.go C ⟨fun h1 => ⟨trivial, ?_⟩, fun h1 => absurd (Int32.le_refl _) h1⟩
    exact V_vret C X d_Jx4a65c_clear_da8c8_42 (Nat.zero_le _) (Nat.zero_le _) ⟨rfl, Or.inl ⟨h0, rfl⟩⟩
  · have hle : la ≠ ea := fun z => by rw [z, he] at hl; cases hl
    refine (show ∀ (q i : Nat) (G1 : GH), i + q = n → G1 ea = some (oar 6 cap (clr f i)) → va_up (va_up G ea (some (oar 6 cap (clr f n)))) la (some (alC (mo + nI 1) ea 0)) = va_up G1 ea (some (oar 6 cap (clr f n))) → V p l e _ s m args below meth c Y _ _ 27 G1 0 0 [some (.inr (.inr (some la))), some (.inr (.inr (some ea))), some (.inl (nI n)), some (.inl (nI i))] [] from ?_) n 0 _ (by omega) ((up_ne (Ne.symm hle)).trans (by rw [clr_0]; exact he)) (by rw [up_comm (Ne.symm hle)]; rfl)
    intro q
    induction q with
    | zero =>
      intro i G1 hi h1 h2
      obtain rfl : i = n := by omega
      refine b_Jx4a65c_clear_da8c8_27.go C ⟨fun h3 => ⟨trivial, ?_⟩, fun h3 => absurd (Int32.le_refl _) h3⟩
      refine V_vret C X d_Jx4a65c_clear_da8c8_42 (Nat.zero_le _) (Nat.zero_le _) ⟨rfl, Or.inr ⟨hpos, ?_⟩⟩
      rw [h2]
      funext z
      by_cases hz : z = ea
      · rw [hz, up_eq, h1]
      · rw [up_ne hz]
    | succ q ih =>
      intro i G1 hi h1 h2
      refine b_Jx4a65c_clear_da8c8_27.go C ⟨fun h3 => absurd ((nI_leI (by omega) (by omega)).mp h3) (by omega), fun h3 => ⟨trivial, ?_⟩⟩
      refine b_Jx4a65c_clear_da8c8_32.go C ⟨(fun y hy => by cases hy), cap, _, h1, i, rfl, by omega, hc, _, nI_1 i, trivial, ?_⟩
      rw [clr_s]
      exact ih (i + 1) _ (by omega) up_eq (by rw [h2, bx_uu])
end LISTR
