/-! the class: the kitchen's own list of stages behind openings -/
section CTM
variable {K : MS} {n : Nat}
theorem kep_0 {t : Nat} : kepK K t 0 0 = nI t := by
  unfold kepK; rw [srvU_o _ _ _ _ _ 0 (by decide), up2_s]
theorem kep_5 {t j : Nat} : kepK K t 5 j = if j = t - 1 then nI t else K 5 j := by
  unfold kepK; rw [srvU_o _ _ _ _ _ 5 (by decide), up2_f (by decide)]
  by_cases z : j = t - 1
  · rw [if_pos z, z, up2_s]
  · rw [if_neg z, up2_n (fun w => z w.2)]
/-- a stage n + 1 is kept -/
theorem mdK_kep (h : mdK K n n) (hn : n < 200) {K2 : MS} (e5 : ∀ j, K2 5 j = K 5 j) : mdK (kepK K2 (n + 1)) (n + 1) (n + 1) := by
  refine ⟨kep_0, Nat.le_refl _, by omega, fun j hj => ?_⟩
  rw [kep_5]
  by_cases z : j = n
  · rw [z, if_pos (by omega)]
  · rw [if_neg (by omega), e5]
    exact h.2.2.2 j (by omega)
theorem mdK_e {K2 : MS} {m : Nat} (h : mdK K n m) (e0 : K2 0 0 = K 0 0) (e5 : ∀ j, K2 5 j = K 5 j) : mdK K2 n m := ⟨e0.trans h.1, h.2.1, h.2.2.1, fun j hj => (e5 j).trans (h.2.2.2 j hj)⟩
theorem rdy_o {t f j : Nat} (h1 : f ≠ 4000) (h2 : f < 10 ∨ 70 ≤ f) : rdyK K t f j = K f j := by
  unfold rdyK
  rw [add_o (by omega) (by omega)]
  unfold rdyA
  first | rw [up2_f (by omega), up2_f (by omega)] | rw [up2_f (by omega)]
theorem mdK_ow (h : mdK K n n) (hn : n < 200) {K2 : MS} (e5 : ∀ j, K2 5 j = K 5 j) : mdK (owK K2 (n + 1)) (n + 1) (n + 1) := by
  have h1 := mdK_kep h hn e5
  unfold owK
  split
  · exact h1
  · exact mdK_e h1 (rdy_o (by decide) (Or.inl (by decide))) (fun j => rdy_o (by decide) (Or.inl (by decide)))
/-- what always asks of the state between its two stages -/
theorem mdK_alw (h : mdK K n n) (hn : n < 200) {σ : Nat → Int32} {ls : List Nat} {tm : Nat} : mdK (owK (mkKw K (n + 1) σ ls tm) (n + 1)) (n + 1) (n + 1) := mdK_ow h hn (fun j => stg_o (by omega) (by omega) (by omega) (by omega))
end CTM
