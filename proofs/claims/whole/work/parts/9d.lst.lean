/-! the inputs of a stage and the ended ones, as lists -/
section LSTS
variable {n k w x y : Nat} {M M1 M' : MS} {t : Nat}
theorem anyI_iff (f : Nat → Bool) : ∀ (q j : Nat) (acc : Bool), anyI f q j acc = true ↔ acc = true ∨ ∃ i, j ≤ i ∧ i < j + q ∧ f i = true
  | 0, j, acc => by
    rw [anyI]
    exact ⟨Or.inl, fun h => h.elim id (fun ⟨i, h1, h2, _⟩ => by omega)⟩
  | q + 1, j, acc => by
    rw [anyI, anyI_iff f q (j + 1) (acc || f j), Bool.or_eq_true]
    constructor
    · rintro ((h | h) | ⟨i, h1, h2, h3⟩)
      · exact Or.inl h
      · exact Or.inr ⟨j, Nat.le_refl _, by omega, h⟩
      · exact Or.inr ⟨i, by omega, by omega, h3⟩
    · rintro (h | ⟨i, h1, h2, h3⟩)
      · exact Or.inl (Or.inl h)
      · by_cases hi : i = j
        · subst hi; exact Or.inl (Or.inr h3)
        · exact Or.inr ⟨i, by omega, by omega, h3⟩
def inL (M : MS) (t : Nat) : List Nat := (List.range (kI M t)).map (iN M t)
theorem inL_len : (inL M t).length = nN M 4 t := by rw [inL, List.length_map, List.length_range]; rfl
theorem inL_mem {s : Nat} : s ∈ inL M t ↔ ∃ j, j < nN M 4 t ∧ nN M 3 (24 * t + j) = s := by
  rw [inL, List.mem_map]
  exact ⟨fun ⟨j, h1, h2⟩ => ⟨j, List.mem_range.mp h1, h2⟩, fun ⟨j, h1, h2⟩ => ⟨j, List.mem_range.mpr h1, h2⟩⟩
theorem inp_iff (hN : NT exM M) {s : Nat} (hs : s < 2 ^ 31) : inpB M t (nI s) = true ↔ s ∈ inL M t := by
  rw [inpB, anyI_iff, inL_mem]
  constructor
  · rintro (h | ⟨i, _, h2, h3⟩)
    · cases h
    · exact ⟨i, by have : kI M t = nN M 4 t := rfl
                   omega, (hN.eq rfl hs).mp (of_decide_eq_true h3)⟩
  · rintro ⟨j, h1, h2⟩
    exact Or.inr ⟨j, Nat.zero_le _, by have : kI M t = nN M 4 t := rfl
                                       omega, decide_eq_true ((hN.eq rfl hs).mpr h2)⟩
theorem some_iff (hN : NT exM M) : someB M t = true ↔ ∃ s ∈ inL M t, nN M 8 s ≠ 0 := by
  rw [someB, anyI_iff]
  constructor
  · rintro (h | ⟨i, _, h2, h3⟩)
    · cases h
    · exact ⟨iN M t i, inL_mem.mpr ⟨i, by have : kI M t = nN M 4 t := rfl
                                          omega, rfl⟩, fun q => of_decide_eq_true h3 ((hN.z rfl).mpr q)⟩
  · rintro ⟨s, h1, h2⟩
    obtain ⟨j, h3, h4⟩ := inL_mem.mp h1
    exact Or.inr ⟨j, Nat.zero_le _, by have : kI M t = nN M 4 t := rfl
                                       omega, decide_eq_true (fun q => h2 (by rw [← h4]; exact (hN.z rfl).mp q))⟩
theorem inL_nd (hS : jS n M) (h1 : 1 ≤ t) (h2 : t ≤ n) : (inL M t).Nodup := by
  rw [inL, List.nodup_iff_pairwise_ne, List.pairwise_map, List.pairwise_iff_getElem]
  intro i j hi hj hij
  rw [List.getElem_range, List.getElem_range]
  rw [List.length_range] at hj
  exact (hS.2 t h1 h2).2.2.1 i j hij hj
theorem inL_b (hS : jS n M) (h1 : 1 ≤ t) (h2 : t ≤ n) {s : Nat} (h : s ∈ inL M t) : 1 ≤ s ∧ s < t := by
  obtain ⟨j, q1, q2⟩ := inL_mem.mp h
  rw [← q2]
  exact (hS.2 t h1 h2).2.1 j q1
theorem inL_e (h3 : M' 3 = M 3) (h4 : M' 4 = M 4) : inL M' t = inL M t := by unfold inL kI iN; rw [h4, nN_e h3]
/-- the ended ones of the places p .. p + q - 1 -/
def enR (M : MS) (p q : Nat) : List Nat := (List.range' p q).map (nN M 15)
theorem enR_mem (hE : jE n M) {p q s : Nat} (hp : 1 ≤ p) (hq : p + q ≤ nN M 16 0 + 1) : s ∈ enR M p q ↔ (1 ≤ s ∧ s ≤ n ∧ nN M 8 s ≠ 0) ∧ p ≤ nN M 10 s ∧ nN M 10 s < p + q := by
  rw [enR, List.mem_map]
  constructor
  · rintro ⟨i, h1, h2⟩
    rw [List.mem_range'_1] at h1
    obtain ⟨a, b, c, d⟩ := hE.1 i (by omega) (by omega)
    rw [h2] at a b c d
    exact ⟨⟨a, b, c⟩, by omega, by omega⟩
  · rintro ⟨⟨h1, h2, h3⟩, h4, h5⟩
    exact ⟨nN M 10 s, List.mem_range'_1.mpr ⟨h4, h5⟩, (hE.2.1 s h1 h2 h3).2.2⟩
theorem enR_sorted (hE : jE n M) {p q : Nat} (hp : 1 ≤ p) (hq : p + q ≤ nN M 16 0 + 1) : (enR M p q).Pairwise (fun a b => nN M 10 a < nN M 10 b) := by
  rw [enR, List.pairwise_map, List.pairwise_iff_getElem]
  intro i j hi hj hij
  rw [List.length_range'] at hi hj
  rw [List.getElem_range', List.getElem_range', (hE.1 _ (by omega) (by omega)).2.2.2, (hE.1 _ (by omega) (by omega)).2.2.2]
  omega
theorem lt_nd {l : List Nat} {g : Nat → Nat} (h : l.Pairwise (fun a b => g a < g b)) : l.Nodup := by
  rw [List.nodup_iff_pairwise_ne]
  exact h.imp (fun {a b} q e => by rw [e] at q; omega)
/-- two lists sorted alike, of the same members, are the same -/
theorem sorted_eq {g : Nat → Nat} : ∀ {l l' : List Nat}, l.Pairwise (fun a b => g a < g b) → l'.Pairwise (fun a b => g a < g b) → (∀ s, s ∈ l ↔ s ∈ l') → l = l'
  | [], [], _, _, _ => rfl
  | [], b :: l', _, _, h => absurd ((h b).mpr List.mem_cons_self) (by simp)
  | a :: l, [], _, _, h => absurd ((h a).mp List.mem_cons_self) (by simp)
  | a :: l, b :: l', h1, h2, h => by
    rw [List.pairwise_cons] at h1 h2
    have hab : a = b := by
      have q1 := (h a).mp List.mem_cons_self
      have q2 := (h b).mpr List.mem_cons_self
      rw [List.mem_cons] at q1 q2
      rcases q1 with q1 | q1
      · exact q1
      · rcases q2 with q2 | q2
        · exact q2.symm
        · have := h2.1 a q1
          have := h1.1 b q2
          omega
    subst hab
    rw [sorted_eq (g := g) h1.2 h2.2 (fun s => ?_)]
    constructor
    · intro q
      have := (h s).mp (List.mem_cons_of_mem a q)
      rw [List.mem_cons] at this
      rcases this with rfl | this
      · have := h1.1 s q; omega
      · exact this
    · intro q
      have := (h s).mpr (List.mem_cons_of_mem a q)
      rw [List.mem_cons] at this
      rcases this with rfl | this
      · have := h2.1 s q; omega
      · exact this
/-- the ended inputs of t, by place -/
def eiL (M : MS) (t p q : Nat) : List Nat := (enR M p q).filter (fun s => inpB M t (nI s))
theorem eiL_sub (hI : Inv n k w x y M) {p q s : Nat} (hp : 1 ≤ p) (hq : p + q ≤ nN M 16 0 + 1) : s ∈ eiL M t p q ↔ s ∈ inL M t ∧ (1 ≤ s ∧ s ≤ n ∧ nN M 8 s ≠ 0) ∧ p ≤ nN M 10 s ∧ nN M 10 s < p + q := by
  rw [eiL, List.mem_filter, enR_mem hI.e hp hq]
  have hn := hI.a.1
  constructor
  · rintro ⟨h1, h2⟩; exact ⟨(inp_iff hI.nt (by omega)).mp h2, h1⟩
  · rintro ⟨h1, h2⟩; exact ⟨h2, (inp_iff hI.nt (by omega)).mpr h1⟩
theorem eiL_sorted (hI : Inv n k w x y M) {p q : Nat} (hp : 1 ≤ p) (hq : p + q ≤ nN M 16 0 + 1) : (eiL M t p q).Pairwise (fun a b => nN M 10 a < nN M 10 b) := (enR_sorted hI.e hp hq).filter _
theorem eiL_len (hI : Inv n k w x y M) {p q : Nat} (hp : 1 ≤ p) (hq : p + q ≤ nN M 16 0 + 1) (P : Nat → Bool) : ((eiL M t p q).filter P).length ≤ nN M 4 t := by
  rw [← inL_len (M := M) (t := t)]
  refine List.Nodup.length_le_of_subset (lt_nd ((eiL_sorted (t := t) hI hp hq).filter P)) (fun s hs => ?_)
  rw [List.mem_filter] at hs
  exact ((eiL_sub hI hp hq).mp hs.1).1
end LSTS
