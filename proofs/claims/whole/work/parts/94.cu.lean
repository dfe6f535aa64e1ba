/-! the class: what holds of a new kitchen -/
section CU0
theorem nN_K0 {f j : Nat} (h1 : f ≠ 1) (h2 : f ≠ 60) (h3 : f ≠ 81) : nN K0 f j = 0 := by
  rw [nN, K0_n h1 h2 h3]; rfl
theorem lsL_K0 (a : Nat) (ha : a ≤ 13) : lsL K0 a = [] := by
  unfold lsL; rw [nN_K0 (by decide) (by decide) (by decide)]; rfl
theorem cpK_K0 (a : Nat) : cpK K0 a = 0 := by
  unfold cpK; rw [if_pos (K0_n (by decide) (by decide) (by decide))]
theorem LOk_K0 (n a : Nat) (ha : a ≤ 13) : LOk K0 n a := by
  unfold LOk
  rw [lsL_K0 a ha, cpK_K0]
  refine ⟨(K0_n (by decide) (by decide) (by decide)).trans nI_0.symm, Nat.le_refl _, by decide, Or.inl ⟨rfl, K0_n (by decide) (by decide) (by decide)⟩, fun u hu => (by cases hu), fun j => ?_⟩
  rw [K0_n (by omega) (by omega) (by omega)]
  exact nI_0.symm
theorem LA_K0 (n : Nat) : LA K0 n := fun a ha => ⟨LOk_K0 n a ha, by rw [lsL_K0 a ha]; exact List.nodup_nil, by rw [lsL_K0 a ha]; exact Nat.zero_le _⟩
theorem mdK_K0 : mdK K0 0 0 := ⟨(K0_n (by decide) (by decide) (by decide)).trans nI_0.symm, Nat.le_refl _, by decide, fun j hj => absurd hj (Nat.not_lt_zero _)⟩
theorem rd0_K0 (n : Nat) : rd0 K0 n := ⟨LOk_K0 n 0 (by decide), by rw [lsL_K0 0 (by decide)]; exact Nat.zero_le _⟩
theorem FW_K0 : FW K0 0 := fun f h1 h2 => absurd (Nat.le_trans h1 h2) (by decide)
theorem nN_81 : nN K0 81 0 = 192 := nI_clamp (by decide)
theorem jrOk_K0 : jrOk K0 := by
  have e : nN K0 80 0 = 0 := nN_K0 (by decide) (by decide) (by decide)
  unfold jrOk
  rw [e, nN_81]
  exact ⟨(K0_n (by decide) (by decide) (by decide)).trans nI_0.symm, by decide, by decide, by decide, by decide⟩
end CU0
