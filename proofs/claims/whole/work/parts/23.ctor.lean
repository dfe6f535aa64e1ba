/-! constructors of the leaves -/
section CTOR
variable {l : Launch} {Y : YT}
theorem lb {a b : Nat} (h : Nat.ble a b = true) : a ≤ b := Nat.le_of_ble_eq_true h
theorem up_ne {α : Type} {f : Nat → α} {k j : Nat} {v : α} (h : j ≠ k) : va_up f k v j = f j := if_neg h
theorem up_eq {α : Type} {f : Nat → α} {k : Nat} {v : α} : va_up f k v k = v := if_pos rfl
/-- a place that holds something is not one that holds nothing -/
theorem ne_none {G : GH} {a q : Nat} {e : AC} (ha : G a = some e) (hq : G q = none) : a ≠ q := fun h => by rw [h, hq] at ha; cases ha
theorem up_comm {G : GH} {a b : Nat} (h : a ≠ b) (u v : Option AC) : va_up (va_up G a u) b v = va_up (va_up G b v) a u := by
  funext j
  by_cases h1 : j = a
  · subst h1; rw [up_ne h, up_eq, up_eq]
  · rw [up_ne h1]
    by_cases h2 : j = b
    · subst h2; rw [up_eq, up_eq]
    · rw [up_ne h2, up_ne h2, up_ne h1]
theorem c_ACinit (d : Nat) (G : GH) (a : Nat) : Cd l yJxa1e45_init_da8c8 cJxa1e45_init_da8c8 1 none (d + 1) 0 0 Y [.inr (.inr (some a))] G (fun r G' => r = none ∧ G' = G) := by
  refine Ct.of (ini := True) (by decide +kernel) (fun _ => rfl) rfl (Nat.le_of_ble_eq_true rfl) ?_
  intro p e s m args below meth c C X
  refine b_Jxa1e45_init_da8c8_0.go C ⟨trivial, ?_⟩
  refine V_objInit C X q_127 d_Jxa1e45_init_da8c8_1 rfl ⟨Nat.succ_le_succ (Nat.zero_le _), by show 20 ≤ 40 * (d + 1); omega⟩ (Nat.zero_le _) ?_
  exact V_vret C X d_Jxa1e45_init_da8c8_4 (Nat.zero_le _) (Nat.zero_le _) ⟨rfl, rfl⟩
theorem c_ABinit (d : Nat) (G : GH) (a : Nat) (m0 z : Int32) (o : Option Nat) (ha : G a = some (.inr (0, [.inl m0, .inr (.inr o), .inl z]))) : Cd l yJxc12de_init_da8c8 cJxc12de_init_da8c8 1 none (d + 2) 0 0 Y [.inr (.inr (some a))] G (fun r G' => r = none ∧ G' = va_up G a (some (.inr (0, [.inl (nI 0), .inr (.inr o), .inl z])))) := by
  refine Ct.of (ini := True) (by decide +kernel) (fun _ => rfl) rfl (Nat.le_of_ble_eq_true rfl) ?_
  intro p e s m args below meth c C X
  refine b_Jxc12de_init_da8c8_0.go C ⟨trivial, ?_⟩
  refine k_Jxc12de_init_da8c8_1.go C X (c_ACinit d G a) (rest := []) rfl rfl rfl (fun _ => ⟨a, 0, _, rfl, ha, by decide⟩) (Nat.zero_le _) (Rq.of (Nat.le_refl _) (by decide) (Nat.le_refl _) (Nat.le_refl _)) ?_
  rintro r G' ⟨rfl, rfl⟩
  refine b_ALinit_4.go C ⟨_, ha, trivial, ?_⟩
  exact V_vret C X d_Jxc12de_init_da8c8_9 (Nat.zero_le _) (Nat.zero_le _) ⟨rfl, rfl⟩
/-- a new ArrayList -/
theorem c_ALinit (d : Nat) (G : GH) (a : Nat) (m0 : Int32) (o : Option Nat) (ha : G a = some (.inr (0, [.inl m0, .inr (.inr o), .inl 0]))) : Cd l yJx4a65c_init_da8c8 cJx4a65c_init_da8c8 1 none (d + 3) 0 0 Y [.inr (.inr (some a))] G (fun r G' => r = none ∧ G' = va_up G a (some (alC (nI 0) (Y.2.2 0) 0))) := by
  refine Ct.of (ini := True) (by decide +kernel) (fun _ => rfl) rfl (Nat.le_of_ble_eq_true rfl) ?_
  intro p e s m args below meth c C X
  refine b_Jx4a65c_init_da8c8_0.go C ⟨trivial, ?_⟩
  refine k_Jx4a65c_init_da8c8_1.go C X (c_ABinit d G a m0 0 o ha) (rest := []) rfl rfl rfl (fun _ => ⟨a, 0, _, rfl, ha, by decide⟩) (Nat.zero_le _) (Rq.of (Nat.le_refl _) (by decide) (Nat.le_refl _) (Nat.le_refl _)) ?_
  rintro r G' ⟨rfl, rfl⟩
  refine b_Jx4a65c_init_da8c8_4.go C ⟨_, up_eq, trivial, ?_⟩
  exact V_vret C X d_Jx4a65c_init_da8c8_11 (Nat.zero_le _) (Nat.zero_le _) ⟨rfl, by rw [bx_uu]; rfl⟩
theorem c_Agenda (d : Nat) (G : GH) (a : Nat) (o : Option Nat) (ha : G a = some (.inr (1, [.inr (.inr o)]))) : Cd l yX0_init cX0_init 1 none (d + 1) 1 157 Y [.inr (.inr (some a))] G (fun r G' => r = none ∧ ∃ q, G q = none ∧ G' = va_up (va_up G q (some (.inl (1, 157, .inr (.inl (fun _ => 0)))))) a (some (.inr (1, [.inr (.inr (some q))])))) := by
  refine Ct.of (ini := True) (by decide +kernel) (fun _ => rfl) rfl (Nat.le_of_ble_eq_true rfl) ?_
  intro p e s m args below meth c C X
  refine b_X0_init_0.go C ⟨trivial, ?_⟩
  refine V_objInit C X q_168 d_X0_init_1 rfl ⟨Nat.succ_le_succ (Nat.zero_le _), by show 20 ≤ 40 * (d + 1); omega⟩ (Nat.zero_le _) ?_
  refine b_X0_init_4.go C ⟨157, rfl, by decide, Nat.le_refl 1, Nat.le_refl 157, fun q hq => ⟨_, (up_ne (ne_none ha hq)).trans ha, trivial, ?_⟩⟩
  exact V_vret C X d_X0_init_13 (Nat.le_refl 1) (Nat.le_refl 157) ⟨rfl, q, hq, rfl⟩
theorem c_Journal (d : Nat) (G : GH) (a : Nat) (o : Option Nat) (z : Int32) (ha : G a = some (.inr (4, [.inr (.inr o), .inl z]))) : Cd l yX3_init cX3_init 1 none (d + 1) 1 192 Y [.inr (.inr (some a))] G (fun r G' => r = none ∧ ∃ q, G q = none ∧ G' = va_up (va_up G q (some (.inl (0, 192, .inl (fun _ => 0))))) a (some (.inr (4, [.inr (.inr (some q)), .inl (nI 0)])))) := by
  refine Ct.of (ini := True) (by decide +kernel) (fun _ => rfl) rfl (Nat.le_of_ble_eq_true rfl) ?_
  intro p e s m args below meth c C X
  refine b_X3_init_0.go C ⟨trivial, ?_⟩
  refine V_objInit C X q_179 d_X3_init_1 rfl ⟨Nat.succ_le_succ (Nat.zero_le _), by show 20 ≤ 40 * (d + 1); omega⟩ (Nat.zero_le _) ?_
  refine b_X3_init_4.go C ⟨192, rfl, by decide, Nat.le_refl 1, Nat.le_refl 192, fun q hq => ⟨_, (up_ne (ne_none ha hq)).trans ha, _, up_eq, trivial, ?_⟩⟩
  exact V_vret C X d_X3_init_18 (Nat.le_refl 1) (Nat.le_refl 192) ⟨rfl, q, hq, by rw [bx_uu]⟩
/-- a new cook: its list -/
theorem c_Cook (d : Nat) (G : GH) (a : Nat) (n : Int32) (ha : G a = some (.inr (2, [.inl 0, .inr (.inr none), .inl 0, .inl 0]))) : Cd l yX1_init cX1_init 2 none (d + 4) 1 3 Y [.inr (.inr (some a)), .inl n] G (fun r G' => r = none ∧ ∃ q, G q = none ∧ G' = va_up (va_up G q (some (alC (nI 0) (Y.2.2 0) 0))) a (some (.inr (2, [.inl n, .inr (.inr (some q)), .inl (nI 0), .inl (nI 0)])))) := by
  refine Ct.of (ini := True) (by decide +kernel) (fun _ => rfl) rfl (Nat.le_of_ble_eq_true rfl) ?_
  intro p e s m args below meth c C X
  refine b_X1_init_0.go C ⟨trivial, ?_⟩
  refine V_objInit C X q_193 d_X1_init_1 rfl ⟨Nat.succ_le_succ (Nat.zero_le _), by show 20 ≤ 40 * (d + 4); omega⟩ (Nat.zero_le _) ?_
  refine b_X1_init_4.go C ⟨Nat.le_refl 1, Nat.le_refl 3, fun q hq => ⟨trivial, ?_⟩⟩
  refine k_X1_init_9.go C X (c_ALinit d _ q 0 none up_eq) (rest := [.inr (.inr (some q)), .inr (.inr (some a))]) rfl rfl rfl (fun _ => ⟨q, 0, _, rfl, up_eq, by decide⟩) (lb rfl) (Rq.of (Nat.le_refl _) (by decide) (Nat.le_refl _) (Nat.le_refl _)) ?_
  rintro r G' ⟨rfl, rfl⟩
  have hqa := ne_none ha hq
  refine b_X1_init_12.go C ⟨_, (up_ne hqa).trans ((up_ne hqa).trans ha), _, up_eq, _, up_eq, _, up_eq, trivial, ?_⟩
  exact V_vret C X d_X1_init_30 (Nat.le_refl 1) (Nat.le_refl 3) ⟨rfl, q, hq, by rw [bx_uu, bx_uu, bx_uu, bx_uu]⟩
theorem c_Plan (d : Nat) (G : GH) (a : Nat) (ha : G a = some (.inr (5, [.inr (.inr none), .inr (.inr none), .inr (.inr none), .inl 0]))) : Cd l yX4_init cX4_init 1 none (d + 1) 3 192 Y [.inr (.inr (some a))] G (fun r G' => r = none ∧ ∃ q1 q2 q3, G q1 = none ∧ G q2 = none ∧ G q3 = none ∧ q1 ≠ q2 ∧ q1 ≠ q3 ∧ q2 ≠ q3 ∧ G' = va_up (va_up (va_up (va_up G q1 (some (.inl (0, 64, .inl (fun _ => 0))))) q2 (some (.inl (0, 64, .inl (fun _ => 0))))) q3 (some (.inl (0, 64, .inl (fun _ => 0))))) a (some (.inr (5, [.inr (.inr (some q1)), .inr (.inr (some q2)), .inr (.inr (some q3)), .inl (nI 0)])))) := by
  refine Ct.of (ini := True) (by decide +kernel) (fun _ => rfl) rfl (Nat.le_of_ble_eq_true rfl) ?_
  intro p e s m args below meth c C X
  refine b_X4_init_0.go C ⟨trivial, ?_⟩
  refine V_objInit C X q_147 d_X4_init_1 rfl ⟨Nat.succ_le_succ (Nat.zero_le _), by show 20 ≤ 40 * (d + 1); omega⟩ (Nat.zero_le _) ?_
  refine b_X4_init_4.go C ⟨64, rfl, by decide, lb rfl, lb rfl, fun q1 h1 => ⟨_, (up_ne (ne_none ha h1)).trans ha, 64, rfl, by decide, lb rfl, lb rfl, fun q2 h2 => ?_⟩⟩
  have a1 := ne_none ha h1
  have a2 : a ≠ q2 := ne_none up_eq h2
  have h2' : va_up G q1 (some (.inl (0, 64, .inl (fun _ => (0 : Int32))))) q2 = none := (up_ne (Ne.symm a2)).symm.trans h2
  have n12 : q1 ≠ q2 := ne_none up_eq h2'
  have g2 : G q2 = none := (up_ne (Ne.symm n12)).symm.trans h2'
  refine ⟨_, (up_ne a2).trans up_eq, 64, rfl, by decide, lb rfl, lb rfl, fun q3 h3 => ?_⟩
  have a3 : a ≠ q3 := ne_none up_eq h3
  have h3' := (up_ne (Ne.symm a3)).symm.trans h3
  have n23 : q2 ≠ q3 := ne_none up_eq h3'
  have h3'' := (up_ne (Ne.symm a3)).symm.trans ((up_ne (Ne.symm n23)).symm.trans h3')
  have n13 : q1 ≠ q3 := ne_none up_eq h3''
  have g3 : G q3 = none := (up_ne (Ne.symm n13)).symm.trans h3''
  refine ⟨_, (up_ne a3).trans up_eq, _, up_eq, trivial, ?_⟩
  refine V_vret C X d_X4_init_33 (Nat.le_refl 3) (Nat.le_refl 192) ⟨rfl, q1, q2, q3, h1, g2, g3, n12, n13, n23, ?_⟩
  rw [bx_uu, up_comm a3, bx_uu, up_comm a2, up_comm a3, bx_uu]
end CTOR
