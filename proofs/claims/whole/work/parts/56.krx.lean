/-! the class's heap grows -/
section KRX
/-- the cell (k, i) names (k', i') by itself -/
def ment (k i k' i' : Nat) : Prop := match k with
  | 0 => (k' = 19 ∨ k' = 20 ∨ k' = 11 ∨ k' = 15 ∨ k' = 17) ∧ i' = 0 ∨ (k' = 9 ∧ (i' = 0 ∨ i' = 13))
  | 1 => (k' = 2 ∨ k' = 3 ∨ k' = 4 ∨ k' = 5) ∧ i' = i
  | 6 => k' = 7 ∧ i' = i
  | 8 => k' = 9 ∧ i' = i
  | 9 => k' = 10 ∧ i' = i
  | 11 => (k' = 12 ∨ k' = 13 ∨ k' = 14) ∧ i' = 0
  | 15 => k' = 16 ∧ i' = 0
  | 17 => k' = 18 ∧ i' = 0
  | 20 => k' = 8 ∧ 1 ≤ i'
  | _ => False
theorem dec_cg {A A' : AS} {k N : Nat} {v : Int32} (h : ∀ u, u ≤ N → A' k u = A k u) (hv : v.toNatClampNeg ≤ N) : dec A' k v = dec A k v := by
  unfold dec; split
  · rfl
  · rw [h _ hv]
theorem liv_20 {n F : Nat} {K : MS} {k i : Nat} (h : liv n F K k i) : k ≤ 20 := by
  unfold liv at h
  split at h <;> omega
theorem cel_A {Y : YT} {A A' : AS} {K : MS} {L : KL} {n F : Nat} (hn : n ≤ 201) (h1 : ∀ u, u ≤ n → A' 1 u = A 1 u) (h6 : ∀ u, u ≤ F → A' 6 u = A 6 u) (h8 : ∀ u, A' 8 u = A 8 u) (hr : RB n F K) : ∀ (k i : Nat), liv n F K k i → (∀ k' i', ment k i k' i' → A' k' i' = A k' i') → cel Y A' K L k i = cel Y A K L k i
  | 0, i, hl, hm => by
    show (Sum.inr (8, mnL A' K) : AC) = Sum.inr (8, mnL A K)
    unfold mnL
    rw [hm 19 0 (Or.inl ⟨by omega, rfl⟩), hm 20 0 (Or.inl ⟨by omega, rfl⟩), hm 11 0 (Or.inl ⟨by omega, rfl⟩), hm 15 0 (Or.inl ⟨by omega, rfl⟩), hm 17 0 (Or.inl ⟨by omega, rfl⟩), hm 9 0 (Or.inr ⟨rfl, by omega⟩), hm 9 13 (Or.inr ⟨rfl, by omega⟩)]
  | 1, i, hl, hm => by
    show stC (isWK K i) (sgK K i) (rhK A' K i) = stC (isWK K i) (sgK K i) (rhK A K i)
    refine sg_congr (fun j _ _ _ _ _ _ _ => rfl) (fun j hj => ?_)
    rcases hj with rfl | rfl | rfl | rfl | rfl | rfl
    · show some (A' 2 i) = some (A 2 i); rw [hm 2 i ⟨by omega, rfl⟩]
    · show some (A' 3 i) = some (A 3 i); rw [hm 3 i ⟨by omega, rfl⟩]
    · show dec A' 6 (K 18 i) = dec A 6 (K 18 i); exact dec_cg h6 (hr.2 18 i (by decide) hl)
    · show dec A' 8 (K 31 i) = dec A 8 (K 31 i); exact dec_cg (N := (K 31 i).toNatClampNeg) (fun u _ => h8 u) (Nat.le_refl _)
    · show some (A' 4 i) = some (A 4 i); rw [hm 4 i ⟨by omega, rfl⟩]
    · show some (A' 5 i) = some (A 5 i); rw [hm 5 i ⟨by omega, rfl⟩]
  | 2, i, hl, hm => by
    have hi := liv_lt hl hn (by decide) (by decide)
    show oar 5 (nN K 12 i) (fun j => dec A' 1 (K (1000 + i) j)) = oar 5 (nN K 12 i) (fun j => dec A 1 (K (1000 + i) j))
    rw [show (fun j => dec A' 1 (K (1000 + i) j)) = (fun j => dec A 1 (K (1000 + i) j)) from funext (fun j => dec_cg h1 (hr.1 (1000 + i) j (decide_eq_true (by omega)) (by rw [own_2 j hi]; exact hl)))]
  | 3, i, hl, hm => by show (Sum.inl (1, 4, Sum.inr (Sum.inl (L (1 + i)))) : AC) = Sum.inl (1, 4, Sum.inr (Sum.inl (L (1 + i)))); rfl
  | 4, i, hl, hm => by show (Sum.inl (0, nN K 34 i, Sum.inl (K (2000 + i))) : AC) = Sum.inl (0, nN K 34 i, Sum.inl (K (2000 + i))); rfl
  | 5, i, hl, hm => by
    have hi := liv_lt hl hn (by decide) (by decide)
    show oar 4 (nN K 35 i) (fun j => dec A' 6 (K (3000 + i) j)) = oar 4 (nN K 35 i) (fun j => dec A 6 (K (3000 + i) j))
    rw [show (fun j => dec A' 6 (K (3000 + i) j)) = (fun j => dec A 6 (K (3000 + i) j)) from funext (fun j => dec_cg h6 (hr.2 (3000 + i) j (decide_eq_true (by omega)) (by rw [own_5 j hi]; exact hl)))]
  | 6, i, hl, hm => by
    show fC (K 50 i) (K 51 i) (dec A' 6 (K 52 i)) (some (A' 7 i)) (K 54 i) (K 55 i) (K 56 i) (K 57 i) (dec A' 6 (K 58 i)) = fC (K 50 i) (K 51 i) (dec A 6 (K 52 i)) (some (A 7 i)) (K 54 i) (K 55 i) (K 56 i) (K 57 i) (dec A 6 (K 58 i))
    rw [hm 7 i ⟨rfl, rfl⟩, dec_cg h6 (hr.2 52 i (by decide) hl), dec_cg h6 (hr.2 58 i (by decide) hl)]
  | 7, i, hl, hm => by
    show oar 4 (nN K 53 i) (fun j => dec A' 6 (K (10000 + i) j)) = oar 4 (nN K 53 i) (fun j => dec A 6 (K (10000 + i) j))
    rw [show (fun j => dec A' 6 (K (10000 + i) j)) = (fun j => dec A 6 (K (10000 + i) j)) from funext (fun j => dec_cg h6 (hr.2 (10000 + i) j (decide_eq_true (by omega)) (by rw [own_7 j]; exact hl)))]
  | 8, i, hl, hm => by
    show (Sum.inr (2, [.inl (K 60 i), .inr (.inr (some (A' 9 i))), .inl (K 61 i), .inl (K 62 i)]) : AC) = Sum.inr (2, [.inl (K 60 i), .inr (.inr (some (A 9 i))), .inl (K 61 i), .inl (K 62 i)])
    rw [hm 9 i ⟨rfl, rfl⟩]
  | 9, i, hl, hm => by
    show (Sum.inr (0, [.inl (K 63 i), .inr (.inr (some (if K 65 i = 0 then Y.2.2 0 else A' 10 i))), .inl (K 64 i)]) : AC) = Sum.inr (0, [.inl (K 63 i), .inr (.inr (some (if K 65 i = 0 then Y.2.2 0 else A 10 i))), .inl (K 64 i)])
    rw [hm 10 i ⟨rfl, rfl⟩]
  | 10, i, hl, hm => by
    have hi := liv_lt hl hn (by decide) (by decide)
    show oar 6 (nN K 67 i) (fun j => dec A' 1 (K (4000 + i) j)) = oar 6 (nN K 67 i) (fun j => dec A 1 (K (4000 + i) j))
    rw [show (fun j => dec A' 1 (K (4000 + i) j)) = (fun j => dec A 1 (K (4000 + i) j)) from funext (fun j => dec_cg h1 (hr.1 (4000 + i) j (decide_eq_true (by omega)) (by rw [own_10 j hi]; exact hl)))]
  | 11, i, hl, hm => by
    show (Sum.inr (5, [.inr (.inr (some (A' 12 0))), .inr (.inr (some (A' 13 0))), .inr (.inr (some (A' 14 0))), .inl (K 70 0)]) : AC) = Sum.inr (5, [.inr (.inr (some (A 12 0))), .inr (.inr (some (A 13 0))), .inr (.inr (some (A 14 0))), .inl (K 70 0)])
    rw [hm 12 0 ⟨by omega, rfl⟩, hm 13 0 ⟨by omega, rfl⟩, hm 14 0 ⟨by omega, rfl⟩]
  | 12, i, hl, hm => by show (Sum.inl (0, 64, Sum.inl (K 71)) : AC) = Sum.inl (0, 64, Sum.inl (K 71)); rfl
  | 13, i, hl, hm => by show (Sum.inl (0, 64, Sum.inl (K 72)) : AC) = Sum.inl (0, 64, Sum.inl (K 72)); rfl
  | 14, i, hl, hm => by show (Sum.inl (0, 64, Sum.inl (K 73)) : AC) = Sum.inl (0, 64, Sum.inl (K 73)); rfl
  | 15, i, hl, hm => by
    show (Sum.inr (1, [.inr (.inr (some (A' 16 0)))]) : AC) = Sum.inr (1, [.inr (.inr (some (A 16 0)))])
    rw [hm 16 0 ⟨rfl, rfl⟩]
  | 16, i, hl, hm => by show (Sum.inl (1, 157, Sum.inr (Sum.inl (L 0))) : AC) = Sum.inl (1, 157, Sum.inr (Sum.inl (L 0))); rfl
  | 17, i, hl, hm => by
    show (Sum.inr (4, [.inr (.inr (some (A' 18 0))), .inl (K 80 0)]) : AC) = Sum.inr (4, [.inr (.inr (some (A 18 0))), .inl (K 80 0)])
    rw [hm 18 0 ⟨rfl, rfl⟩]
  | 18, i, hl, hm => by show (Sum.inl (0, nN K 81 0, Sum.inl (K 82)) : AC) = Sum.inl (0, nN K 81 0, Sum.inl (K 82)); rfl
  | 19, i, hl, hm => by
    show oar 5 200 (fun j => dec A' 1 (K 5 j)) = oar 5 200 (fun j => dec A 1 (K 5 j))
    rw [show (fun j => dec A' 1 (K 5 j)) = (fun j => dec A 1 (K 5 j)) from funext (fun j => dec_cg h1 (hr.1 5 j (by decide) (show liv n F K 19 0 from ⟨by decide, rfl⟩)))]
  | 20, i, hl, hm => by
    show oar 3 12 (fun j => some (A' 8 (j + 1))) = oar 3 12 (fun j => some (A 8 (j + 1)))
    rw [show (fun j => some (A' 8 (j + 1))) = (fun j => some (A 8 (j + 1))) from funext (fun j => by rw [h8])]
  | k + 21, i, hl, hm => by have := liv_20 hl; omega
/-- the heap grows, or names get other places: T are the names that are touched -/
theorem KR.ext {Y : YT} {G : GH} {A : AS} {n F : Nat} {K : MS} {L : KL} (h : KR Y G A n F K L) (T : Nat → Nat → Prop) {G' : GH} {A' : AS} {n' F' : Nat} {K' : MS} {L' : KL} (hn : n' ≤ 201) (hF : F' ≤ 2000) (hr : RB n' F' K')
    (hA : ∀ k i, ¬ T k i → A' k i = A k i) (hlv : ∀ k i, ¬ T k i → liv n' F' K' k i → liv n F K k i) (hG : ∀ k i, ¬ T k i → liv n F K k i → G' (A k i) = G (A k i)) (hc : ∀ k i, ¬ T k i → liv n F K k i → cel Y A' K' L' k i = cel Y A K L k i)
    (hT : ∀ k i, T k i → liv n' F' K' k i → G' (A' k i) = some (cel Y A' K' L' k i) ∧ (∀ k' i', ¬ T k' i' → liv n F K k' i' → A' k i ≠ A k' i') ∧ (∀ k' i', T k' i' → liv n' F' K' k' i' → A' k i = A' k' i' → k = k' ∧ i = i')) : KR Y G' A' n' F' K' L' := by
  obtain ⟨h1, h2, h3, h4, h5⟩ := h
  refine ⟨fun k i hl => ?_, fun k i k' i' hl hl' e => ?_, hn, hF, hr⟩
  · by_cases t : T k i
    · exact (hT k i t hl).1
    · have hl0 := hlv k i t hl
      rw [hA k i t, hG k i t hl0, h1 k i hl0, hc k i t hl0]
  · by_cases t : T k i
    · by_cases t' : T k' i'
      · exact (hT k i t hl).2.2 k' i' t' hl' e
      · exact absurd (e.trans (hA k' i' t')) ((hT k i t hl).2.1 k' i' t' (hlv k' i' t' hl'))
    · by_cases t' : T k' i'
      · exact absurd (e.symm.trans (hA k i t)) ((hT k' i' t' hl').2.1 k i t (hlv k i t hl))
      · exact h2 k i k' i' (hlv k i t hl) (hlv k' i' t' hl') (by rw [← hA k i t, ← hA k' i' t']; exact e)
/-- list a: its row g, its modCount, its size, whether it has an array (b), how long that is -/
def lsU (K : MS) (a : Nat) (g : Nat → Int32) (mo sz b cp : Int32) : MS := fun f j => if f = 4000 + a then g j else if f = 63 ∧ j = a then mo else if f = 64 ∧ j = a then sz else if f = 65 ∧ j = a then b else if f = 67 ∧ j = a then cp else K f j
theorem lsU_o {K : MS} {a f j : Nat} {g : Nat → Int32} {mo sz b cp : Int32} (h1 : f ≠ 4000 + a) (h2 : ¬ ((f = 63 ∨ f = 64 ∨ f = 65 ∨ f = 67) ∧ j = a)) : lsU K a g mo sz b cp f j = K f j := by
  unfold lsU
  rw [if_neg h1, if_neg (fun q => h2 ⟨by omega, q.2⟩), if_neg (fun q => h2 ⟨by omega, q.2⟩), if_neg (fun q => h2 ⟨by omega, q.2⟩), if_neg (fun q => h2 ⟨by omega, q.2⟩)]
theorem lsU_r {K : MS} {a j : Nat} {g : Nat → Int32} {mo sz b cp : Int32} : lsU K a g mo sz b cp (4000 + a) j = g j := if_pos rfl
theorem lsU_63 {K : MS} {a : Nat} {g : Nat → Int32} {mo sz b cp : Int32} : lsU K a g mo sz b cp 63 a = mo := by unfold lsU; rw [if_neg (by omega), if_pos ⟨rfl, rfl⟩]
theorem lsU_64 {K : MS} {a : Nat} {g : Nat → Int32} {mo sz b cp : Int32} : lsU K a g mo sz b cp 64 a = sz := by unfold lsU; rw [if_neg (by omega), if_neg (by omega), if_pos ⟨rfl, rfl⟩]
theorem lsU_65 {K : MS} {a : Nat} {g : Nat → Int32} {mo sz b cp : Int32} : lsU K a g mo sz b cp 65 a = b := by unfold lsU; rw [if_neg (by omega), if_neg (by omega), if_neg (by omega), if_pos ⟨rfl, rfl⟩]
theorem lsU_67 {K : MS} {a : Nat} {g : Nat → Int32} {mo sz b cp : Int32} : lsU K a g mo sz b cp 67 a = cp := by unfold lsU; rw [if_neg (by omega), if_neg (by omega), if_neg (by omega), if_neg (by omega), if_pos ⟨rfl, rfl⟩]
/-- (k, i) lies at q from now on -/
def upA (A : AS) (k i q : Nat) : AS := fun k' i' => if k' = k ∧ i' = i then q else A k' i'
theorem upA_s (A : AS) (k i q : Nat) : upA A k i q k i = q := if_pos ⟨rfl, rfl⟩
theorem upA_n {A : AS} {k i q k' i' : Nat} (h : ¬ (k' = k ∧ i' = i)) : upA A k i q k' i' = A k' i' := if_neg h
theorem own_sr {f j : Nat} (h : isSR f = true) : own f j = (19, 0) ∨ (∃ i, f = 1000 + i ∧ i < 1000 ∧ own f j = (2, i)) ∨ (∃ i, f = 4000 + i ∧ own f j = (10, i)) := by
  have h := of_decide_eq_true h
  rcases h with rfl | ⟨h1, h2⟩ | ⟨h1, h2⟩
  · exact Or.inl rfl
  · obtain ⟨i, rfl⟩ : ∃ i, f = 1000 + i := ⟨f - 1000, by omega⟩
    exact Or.inr (Or.inl ⟨i, rfl, by omega, own_2 j (by omega)⟩)
  · obtain ⟨i, rfl⟩ : ∃ i, f = 4000 + i := ⟨f - 4000, by omega⟩
    refine Or.inr (Or.inr ⟨i, rfl, ?_⟩)
    unfold own; repeat (first | rw [if_neg (by omega)] | rw [if_pos (by omega)])
    rw [Nat.add_sub_cancel_left]
theorem own_fr {f j : Nat} (h : isFR f = true) : own f j = (1, j) ∨ own f j = (6, j) ∨ (∃ i, f = 3000 + i ∧ i < 1000 ∧ own f j = (5, i)) ∨ (∃ i, f = 10000 + i ∧ own f j = (7, i)) := by
  have h := of_decide_eq_true h
  rcases h with rfl | rfl | rfl | ⟨h1, h2⟩ | h1
  · exact Or.inl rfl
  · exact Or.inr (Or.inl rfl)
  · exact Or.inr (Or.inl rfl)
  · obtain ⟨i, rfl⟩ : ∃ i, f = 3000 + i := ⟨f - 3000, by omega⟩
    exact Or.inr (Or.inr (Or.inl ⟨i, rfl, by omega, own_5 j (by omega)⟩))
  · obtain ⟨i, rfl⟩ : ∃ i, f = 10000 + i := ⟨f - 10000, by omega⟩
    exact Or.inr (Or.inr (Or.inr ⟨i, rfl, own_7 j⟩))
theorem ment_10 {k i a : Nat} (h : ment k i 10 a) : k = 9 ∧ i = a := by
  unfold ment at h
  split at h <;> first | omega | exact h.elim
theorem KR.lsGen {Y : YT} {G : GH} {A : AS} {n F : Nat} {K : MS} {L : KL} (h : KR Y G A n F K L) {a : Nat} (ha : a ≤ 13) (q cap : Nat) (g : Nat → Int32) (mo sz b : Int32) (hb : ¬ b = 0) (hcap : cap < 2 ^ 31) (hg : ∀ j, (g j).toNatClampNeg ≤ n) (hq : (q = A 10 a ∧ ¬ K 65 a = 0) ∨ G q = none) : KR Y (va_up (va_up G q (some (oar 6 cap (fun j => dec A 1 (g j))))) (A 9 a) (some (.inr (0, [.inl mo, .inr (.inr (some q)), .inl sz])))) (upA A 10 a q) n F (lsU K a g mo sz b (nI cap)) L := by
  have hR := h
  obtain ⟨h1, h2, h3, h4, h5⟩ := h
  have l9 : liv n F K 9 a := ha
  have e11 : ∀ j, lsU K a g mo sz b (nI cap) 11 j = K 11 j := fun j => lsU_o (by omega) (by omega)
  have q9 : q ≠ A 9 a := by
    rcases hq with ⟨rfl, hk⟩ | hq
    · exact fun e => absurd (h2 10 a 9 a ⟨ha, hk⟩ l9 e).1 (by decide)
    · exact (ne_none (h1 9 a l9) hq).symm
  have hlv : ∀ k i, ¬ ((k = 9 ∨ k = 10) ∧ i = a) → liv n F (lsU K a g mo sz b (nI cap)) k i → liv n F K k i := by
    intro k i t hl
    unfold liv isWK at hl ⊢
    rw [e11] at hl
    split at hl <;> first
      | exact hl
      | (refine ⟨hl.1, fun z => hl.2 ?_⟩; rw [lsU_o (by omega) (fun e => t ⟨by omega, e.2⟩)]; exact z)
  have hne : ∀ k i, ¬ ((k = 9 ∨ k = 10) ∧ i = a) → liv n F K k i → A k i ≠ q ∧ A k i ≠ A 9 a := by
    intro k i t hl
    refine ⟨?_, fun e => t ⟨Or.inl (h2 k i 9 a hl l9 e).1, (h2 k i 9 a hl l9 e).2⟩⟩
    rcases hq with ⟨rfl, hk⟩ | hq
    · exact fun e => t ⟨Or.inr (h2 k i 10 a hl ⟨ha, hk⟩ e).1, (h2 k i 10 a hl ⟨ha, hk⟩ e).2⟩
    · exact ne_none (h1 k i hl) hq
  have hKo : ∀ k i, ¬ ((k = 9 ∨ k = 10) ∧ i = a) → ∀ f j, own f j = (k, i) → lsU K a g mo sz b (nI cap) f j = K f j := by
    intro k i t f j ho
    refine lsU_o (fun e => t ?_) (fun e => t ?_)
    · rw [e, own_10 j (by omega)] at ho
      cases ho; exact ⟨Or.inr rfl, rfl⟩
    · obtain ⟨e1, rfl⟩ := e
      rcases e1 with rfl | rfl | rfl | rfl
      · cases ho; exact ⟨Or.inl rfl, rfl⟩
      · cases ho; exact ⟨Or.inl rfl, rfl⟩
      · cases ho; exact ⟨Or.inl rfl, rfl⟩
      · cases ho; exact ⟨Or.inr rfl, rfl⟩
  refine hR.ext (fun k i => (k = 9 ∨ k = 10) ∧ i = a) h3 h4 ⟨fun f j hs hl => ?_, fun f j hs hl => ?_⟩ (fun k i t => upA_n (fun e => t ⟨Or.inr e.1, e.2⟩)) hlv (fun k i t hl => ?_) (fun k i t hl => ?_) (fun k i t hl => ?_)
  · by_cases e : f = 4000 + a
    · subst e; rw [nN, lsU_r]; exact hg j
    · have hs2 := of_decide_eq_true hs
      rw [nN, lsU_o e (by omega)]
      refine h5.1 f j hs (hlv _ _ (fun t => ?_) hl)
      rcases own_sr (j := j) hs with o | ⟨i, -, -, o⟩ | ⟨i, hf, o⟩
      · rw [o] at t; exact absurd t.1 (by simp)
      · rw [o] at t; exact absurd t.1 (by simp)
      · rw [o] at t; exact e (by rw [hf, ← t.2])
  · have hs2 := of_decide_eq_true hs
    rw [nN, lsU_o (by omega) (by omega)]
    refine h5.2 f j hs (hlv _ _ (fun t => ?_) hl)
    rcases own_fr (j := j) hs with o | o | ⟨i, -, -, o⟩ | ⟨i, -, o⟩ <;> (rw [o] at t; exact absurd t.1 (by simp))
  · rw [up_ne (hne k i t hl).2, up_ne (hne k i t hl).1]
  · rw [← cel_own h3 k i hl (fun f j ho => (hKo k i t f j ho).symm)]
    exact cel_A h3 (fun u _ => upA_n (by omega)) (fun u _ => upA_n (by omega)) (fun u => upA_n (by omega)) h5 k i hl (fun k' i' hm => upA_n (fun e => by obtain ⟨rfl, rfl⟩ := e; exact t ⟨Or.inl (ment_10 hm).1, (ment_10 hm).2⟩))
  · obtain ⟨hk, rfl⟩ := t
    have e9 : upA A 10 i q 9 i = A 9 i := upA_n (by omega)
    rcases hk with rfl | rfl
    · refine ⟨?_, fun k' i' t' hl' => ?_, fun k' i' t' hl' e => ?_⟩
      · rw [e9, up_eq]
        show _ = some (Sum.inr (0, [.inl (lsU K i g mo sz b (nI cap) 63 i), .inr (.inr (some (if lsU K i g mo sz b (nI cap) 65 i = 0 then Y.2.2 0 else upA A 10 i q 10 i))), .inl (lsU K i g mo sz b (nI cap) 64 i)]) : AC)
        rw [lsU_63, lsU_64, lsU_65, if_neg hb, upA_s]
      · rw [e9]; exact (hne k' i' t' hl').2.symm
      · obtain ⟨hk, rfl⟩ := t'
        rcases hk with rfl | rfl
        · exact ⟨rfl, rfl⟩
        · rw [e9, upA_s] at e; exact absurd e.symm q9
    · refine ⟨?_, fun k' i' t' hl' => ?_, fun k' i' t' hl' e => ?_⟩
      · rw [upA_s, up_ne q9, up_eq]
        show _ = some (oar 6 (nN (lsU K i g mo sz b (nI cap)) 67 i) (fun j => dec (upA A 10 i q) 1 (lsU K i g mo sz b (nI cap) (4000 + i) j)))
        rw [nN, lsU_67, nI_clamp hcap]
        refine congrArg some (congrArg (oar 6 cap) (funext (fun j => ?_)))
        rw [lsU_r]
        exact (dec_cg (N := (g j).toNatClampNeg) (fun u _ => upA_n (by omega)) (Nat.le_refl _)).symm
      · rw [upA_s]; exact (hne k' i' t' hl').1.symm
      · obtain ⟨hk, rfl⟩ := t'
        rcases hk with rfl | rfl
        · have e9' : upA A 10 i' q 9 i' = A 9 i' := upA_n (by omega)
          rw [upA_s, e9'] at e; exact absurd e q9
        · exact ⟨rfl, rfl⟩
end KRX
