/-! any, by lists -/
section ANYS
variable {n k w x y : Nat} {M M1 M' : MS} {t : Nat}
def anyL (M : MS) (t : Nat) : List Nat → Nat → Nat → Nat → Nat → Nat × Nat × Nat × Nat
  | [], va, nt, wo, la => (va, nt, wo, la)
  | s :: l, va, nt, wo, la => anyL M t l (if M 8 s = nI 1 then va + 1 else va) (if M 8 s = nI 1 ∧ nI (if M 8 s = nI 1 then va + 1 else va) = M 7 t then s else nt) (if M 8 s = nI 1 then wo else wo + 1) (if M 8 s = nI 2 then s else la)
theorem anyF_L (hN : NT exM M) : ∀ (q p va nt wo la : Nat), anyF M t q p va nt wo la = anyL M t (eiL M t p q) va nt wo la
  | 0, p, va, nt, wo, la => rfl
  | q + 1, p, va, nt, wo, la => by
    have e1 : eiL M t p (q + 1) = if inpB M t (M 15 p) = true then nN M 15 p :: eiL M t (p + 1) q else eiL M t (p + 1) q := by
      rw [eiL, enR, List.range'_succ, List.map_cons, List.filter_cons, ← hN 15 p rfl]; rfl
    rw [anyF, e1]
    split
    · rw [anyL, anyF_L hN q (p + 1)]
    · rw [anyF_L hN q (p + 1)]
def c1B (M : MS) (s : Nat) : Bool := decide (nN M 8 s = 1)
def c2B (M : MS) (s : Nat) : Bool := decide (nN M 8 s = 2)
theorem anyL_va (hN : NT exM M) : ∀ (l : List Nat) (va nt wo la : Nat), (anyL M t l va nt wo la).1 = va + (l.filter (c1B M)).length
  | [], va, nt, wo, la => rfl
  | s :: l, va, nt, wo, la => by
    rw [anyL, anyL_va hN l, List.filter_cons]
    by_cases h : nN M 8 s = 1
    · rw [if_pos ((hN.eq rfl (by decide)).mpr h), if_pos (show c1B M s = true from decide_eq_true h), List.length_cons]; omega
    · rw [if_neg (fun q => h ((hN.eq rfl (by decide)).mp q)), if_neg (show ¬ c1B M s = true from fun q => h (of_decide_eq_true q))]
theorem anyL_wo (hN : NT exM M) : ∀ (l : List Nat) (va nt wo la : Nat), (anyL M t l va nt wo la).2.2.1 + (l.filter (c1B M)).length = wo + l.length
  | [], va, nt, wo, la => rfl
  | s :: l, va, nt, wo, la => by
    rw [anyL, List.filter_cons]
    by_cases h : nN M 8 s = 1
    · rw [if_pos ((hN.eq rfl (by decide)).mpr h), if_pos ((hN.eq rfl (by decide)).mpr h), if_pos (show c1B M s = true from decide_eq_true h), List.length_cons, List.length_cons]
      have := anyL_wo hN l (va + 1) (if M 8 s = nI 1 ∧ nI (va + 1) = M 7 t then s else nt) wo (if M 8 s = nI 2 then s else la)
      omega
    · rw [if_neg (fun q => h ((hN.eq rfl (by decide)).mp q)), if_neg (fun q => h ((hN.eq rfl (by decide)).mp q)), if_neg (show ¬ c1B M s = true from fun q => h (of_decide_eq_true q)), List.length_cons]
      have := anyL_wo hN l va (if M 8 s = nI 1 ∧ nI va = M 7 t then s else nt) (wo + 1) (if M 8 s = nI 2 then s else la)
      omega
theorem anyL_la (hN : NT exM M) : ∀ (l : List Nat) (va nt wo la : Nat), (anyL M t l va nt wo la).2.2.2 = ((l.filter (c2B M)).getLast?).getD la
  | [], va, nt, wo, la => rfl
  | s :: l, va, nt, wo, la => by
    rw [anyL, anyL_la hN l, List.filter_cons]
    by_cases h : nN M 8 s = 2
    · rw [if_pos ((hN.eq rfl (by decide)).mpr h), if_pos (show c2B M s = true from decide_eq_true h), List.getLast?_cons, Option.getD_some]
    · rw [if_neg (fun q => h ((hN.eq rfl (by decide)).mp q)), if_neg (show ¬ c2B M s = true from fun q => h (of_decide_eq_true q))]
theorem anyL_nt (hN : NT exM M) (h7 : nN M 7 t ≤ 200) : ∀ (l : List Nat) (va nt wo la : Nat), va + l.length < 2 ^ 31 → (anyL M t l va nt wo la).2.1 = if va < nN M 7 t ∧ nN M 7 t ≤ va + (l.filter (c1B M)).length then (l.filter (c1B M))[nN M 7 t - va - 1]?.getD 0 else nt
  | [], va, nt, wo, la, _ => by
    rw [anyL, if_neg]
    rintro ⟨a, b⟩
    rw [List.filter_nil, List.length_nil] at b; omega
  | s :: l, va, nt, wo, la, hb => by
    rw [List.length_cons] at hb
    rw [anyL, List.filter_cons]
    by_cases h : nN M 8 s = 1
    · rw [if_pos ((hN.eq rfl (by decide)).mpr h), if_pos (show c1B M s = true from decide_eq_true h), anyL_nt hN h7 l _ _ _ _ (by omega), List.length_cons]
      have e : (nI (va + 1) = M 7 t) ↔ nN M 7 t = va + 1 := by rw [eq_comm, hN.eq rfl (by omega)]
      by_cases h2 : nN M 7 t = va + 1
      · rw [if_neg (by omega), if_pos ⟨(hN.eq rfl (by decide)).mpr h, e.mpr h2⟩, if_pos ⟨by omega, by omega⟩, show nN M 7 t - va - 1 = 0 by omega]; rfl
      · rw [if_neg (show ¬ (M 8 s = nI 1 ∧ nI (va + 1) = M 7 t) from fun q => h2 (e.mp q.2))]
        by_cases h3 : va + 1 < nN M 7 t ∧ nN M 7 t ≤ va + 1 + (l.filter (c1B M)).length
        · rw [if_pos h3, if_pos ⟨by omega, by omega⟩, show nN M 7 t - va - 1 = (nN M 7 t - (va + 1) - 1) + 1 by omega]; rfl
        · rw [if_neg h3, if_neg (by omega)]
    · rw [if_neg (fun q => h ((hN.eq rfl (by decide)).mp q)), if_neg (show ¬ c1B M s = true from fun q => h (of_decide_eq_true q)), if_neg (show ¬ (M 8 s = nI 1 ∧ nI va = M 7 t) from fun q => h ((hN.eq rfl (by decide)).mp q.1)), anyL_nt hN h7 l _ _ _ _ (by omega)]
/-- the suppressed ones of a failed any -/
theorem nonF_E {kd at' : Nat} {ca : Int32} (hN : NT exM M) (h12 : ∀ s, nN M 12 s < 2 ^ 31) : ∀ (q p : Nat) (l : List Nat) (M1 : MS), NFE M M1 kd at' ca l → nN M 40 0 + l.length + q + 1 < 2 ^ 31 → NFE M (nonF t (nN M 38 0) q p M1) kd at' ca (l ++ ((eiL M t p q).filter (c2B M)).map (nN M 12))
  | 0, p, l, M1, E, _ => by rw [nonF, eiL, enR, List.range'_zero, List.map_nil, List.filter_nil, List.filter_nil, List.map_nil, List.append_nil]; exact E
  | q + 1, p, l, M1, E, hb => by
    have e8 := E.2.2.2.2.2.2.2.2.2.2 8 rfl
    have e15 := E.2.2.2.2.2.2.2.2.2.2 15 rfl
    have e12 := E.2.2.2.2.2.2.2.2.2.2 12 rfl
    have ei : ∀ v, inpB M1 t v = inpB M t v := fun v => inpB_k t v (E.2.2.2.2.2.2.2.2.2.2 3 rfl) (E.2.2.2.2.2.2.2.2.2.2 4 rfl)
    have e36 : nN M1 36 (nN M 38 0) = nN M 40 0 := by rw [E.2.2.2.1, vu_s]
    have e37 : nN M1 37 (nN M 38 0) = l.length := by rw [E.2.2.2.2.1, vu_s]
    have el : eiL M t p (q + 1) = if inpB M t (M 15 p) = true then nN M 15 p :: eiL M t (p + 1) q else eiL M t (p + 1) q := by
      rw [eiL, enR, List.range'_succ, List.map_cons, List.filter_cons, ← hN 15 p rfl]; rfl
    rw [nonF, e8, nN_e e15, e15, ei, e12, e36, e37, el]
    by_cases h1 : inpB M t (M 15 p) = true
    · rw [if_pos h1, List.filter_cons]
      by_cases h2 : nN M 8 (nN M 15 p) = 2
      · rw [if_pos ⟨(hN.eq rfl (by decide)).mpr h2, h1⟩, if_pos (show c2B M _ = true from decide_eq_true h2), List.map_cons, hN 12 (nN M 15 p) rfl]
        have r := nonF_E hN h12 q (p + 1) (l ++ [nN M 12 (nN M 15 p)]) _ (sup_E (o := nN M 12 (nN M 15 p)) E (h12 _) (by omega)) (by rw [List.length_append]; show _ + (l.length + 1) + q + 1 < _; omega)
        rw [List.append_assoc] at r
        exact r
      · rw [if_neg (fun z => h2 ((hN.eq rfl (by decide)).mp z.1)), if_neg (show ¬ c2B M _ = true from fun z => h2 (of_decide_eq_true z))]
        exact nonF_E hN h12 q (p + 1) l M1 E (by omega)
    · rw [if_neg h1, if_neg (fun z => h1 z.2)]
      exact nonF_E hN h12 q (p + 1) l M1 E (by omega)
end ANYS
