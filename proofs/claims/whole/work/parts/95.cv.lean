/-! the class: failures' ties, kept -/
section CV0
variable {K : MS} {F : Nat}
/-- a new failure, tied to earlier ones alone -/
theorem FW.newF (h : FW K F) (hF : F + 1 ≤ 2000) {kd at' : Int32} {u ns : Nat} {sup : Nat → Int32} (hu : u ≤ F) (hns : ns ≤ 100) (hs : ∀ j, j < ns → ∃ v, v ≤ F ∧ sup j = nI v) : FW (newFK K (F + 1) kd at' (nI u) ns sup) (F + 1) := by
  intro f h1 h2
  by_cases z : f = F + 1
  · subst z
    have e3 : nN (newFK K (F + 1) kd at' (nI u) ns sup) 53 (F + 1) = ns := by rw [nN, newFK_53, nI_clamp (by omega)]
    rw [e3]
    refine ⟨⟨0, (newFK_z (by decide) (by decide)).trans nI_0.symm, Nat.zero_le _⟩, hns, ⟨u, by omega, newFK_52⟩, ⟨0, Nat.zero_le _, (newFK_z (by decide) (by decide)).trans nI_0.symm⟩, fun j hj => ?_⟩
    obtain ⟨v, v1, v2⟩ := hs j hj
    exact ⟨v, by omega, newFK_r.trans v2⟩
  · have hf : f ≤ F := by omega
    obtain ⟨a, b, ⟨c, c1, c2⟩, ⟨d, d1, d2⟩, e⟩ := h f h1 hf
    have o : ∀ g, g < 10000 → newFK K (F + 1) kd at' (nI u) ns sup g f = K g f := fun g hg => newFK_o (by omega) (fun w => z w.1)
    have e3 : nN (newFK K (F + 1) kd at' (nI u) ns sup) 53 f = nN K 53 f := by rw [nN, o 53 (by decide)]; rfl
    rw [e3, o 57 (by decide), o 52 (by decide), o 58 (by decide)]
    refine ⟨a, b, ⟨c, by omega, c2⟩, ⟨d, by omega, d2⟩, fun j hj => ?_⟩
    obtain ⟨v, v1, v2⟩ := e j hj
    exact ⟨v, by omega, (newFK_o (by omega) (by omega)).trans v2⟩
/-- what touches no failure keeps it -/
theorem FW.ot (h : FW K F) {K' : MS} (e : ∀ g j, (52 ≤ g ∧ g ≤ 58) ∨ 10000 ≤ g → K' g j = K g j) : FW K' F := by
  intro f h1 h2
  have e3 : nN K' 53 f = nN K 53 f := by rw [nN, e 53 f (Or.inl (by decide))]; rfl
  rw [e3, e 57 f (Or.inl (by decide)), e 52 f (Or.inl (by decide)), e 58 f (Or.inl (by decide))]
  obtain ⟨a, b, c, d, g⟩ := h f h1 h2
  exact ⟨a, b, c, d, fun j hj => by rw [e (10000 + f) j (Or.inr (by omega))]; exact g j hj⟩
end CV0
