/-! THE CLASS's heap: K f i: its ints, and its references told as numbers (0: null); L f i: its longs; A k i: where the object (k, i) lies. k: 0 the kitchen, 1 stage i, 2 its inputs, 3 its hangs, 4 its pauseEnds, 5 its earlier, 6 failure i, 7 its suppressed, 8 cook i, 9 list i (0 ready, 1 .. 12 the piles, 13 dues), 10 its array, 11 the plan, 12 .. 14 its rows, 15 the agenda, 16 its marks, 17 the journal, 18 its cells, 19 made, 20 crew -/
section KRS
abbrev KL : Type := Nat → Nat → Int64
abbrev AS : Type := Nat → Nat → Nat
def dec (A : AS) (k : Nat) (v : Int32) : Option Nat := if v = 0 then none else some (A k v.toNatClampNeg)
theorem dec_0 {A : AS} {k : Nat} {v : Int32} (h : v = 0) : dec A k v = none := if_pos h
theorem dec_n {A : AS} {k u : Nat} {v : Int32} (h : v = nI u) (h1 : 1 ≤ u) (h2 : u < 2 ^ 31) : dec A k v = some (A k u) := by
  rw [dec, h, if_neg (fun q => by have := (nI_eq (a := u) (b := 0) h2 (by decide)).mp (q.trans nI_0.symm); omega), nI_clamp h2]
theorem dec_e {A : AS} {k : Nat} {v : Int32} (h : dec A k v = none) : v = 0 := by
  unfold dec at h; split at h
  · assumption
  · cases h
theorem dec_s {A : AS} {k a : Nat} {v : Int32} (h : dec A k v = some a) : ¬ v = 0 ∧ a = A k v.toNatClampNeg := by
  unfold dec at h; split at h
  · cases h
  · exact ⟨by assumption, by cases h; rfl⟩
/-- is stage i a work? -/
def isWK (K : MS) (i : Nat) : Bool := decide (nI 1 ≤ K 11 i ∧ K 11 i ≤ nI 4)
def sgK (K : MS) (i : Nat) : Nat → Int32 := fun j => K (10 + j) i
def rhK (A : AS) (K : MS) (i : Nat) : Nat → Option Nat := fun j => match j with | 2 => some (A 2 i) | 5 => some (A 3 i) | 8 => dec A 6 (K 18 i) | 21 => dec A 8 (K 31 i) | 24 => some (A 4 i) | 25 => some (A 5 i) | _ => none
def oar (t N : Nat) (f : Nat → Option Nat) : AC := .inl (t, N, .inr (.inr (.inr (.inr f))))
def mnL (A : AS) (K : MS) : List AV := [.inr (.inr (some (A 19 0))), .inr (.inr (some (A 20 0))), .inr (.inr (some (A 9 0))), .inr (.inr (some (A 9 13))), .inr (.inr (some (A 11 0))), .inr (.inr (some (A 15 0))), .inr (.inr (some (A 17 0))), .inl (K 0 0), .inl (K 1 0), .inl (K 2 0), .inl (K 3 0), .inl (K 4 0)]
def cel (Y : YT) (A : AS) (K : MS) (L : KL) (k i : Nat) : AC := match k with
  | 0 => .inr (8, mnL A K)
  | 1 => stC (isWK K i) (sgK K i) (rhK A K i)
  | 2 => oar 5 (nN K 12 i) (fun j => dec A 1 (K (1000 + i) j))
  | 3 => .inl (1, 4, .inr (.inl (L (1 + i))))
  | 4 => .inl (0, nN K 34 i, .inl (K (2000 + i)))
  | 5 => oar 4 (nN K 35 i) (fun j => dec A 6 (K (3000 + i) j))
  | 6 => fC (K 50 i) (K 51 i) (dec A 6 (K 52 i)) (some (A 7 i)) (K 54 i) (K 55 i) (K 56 i) (K 57 i) (dec A 6 (K 58 i))
  | 7 => oar 4 (nN K 53 i) (fun j => dec A 6 (K (10000 + i) j))
  | 8 => .inr (2, [.inl (K 60 i), .inr (.inr (some (A 9 i))), .inl (K 61 i), .inl (K 62 i)])
  | 9 => .inr (0, [.inl (K 63 i), .inr (.inr (some (if K 65 i = 0 then Y.2.2 0 else A 10 i))), .inl (K 64 i)])
  | 10 => oar 6 (nN K 67 i) (fun j => dec A 1 (K (4000 + i) j))
  | 11 => .inr (5, [.inr (.inr (some (A 12 0))), .inr (.inr (some (A 13 0))), .inr (.inr (some (A 14 0))), .inl (K 70 0)])
  | 12 => .inl (0, 64, .inl (K 71))
  | 13 => .inl (0, 64, .inl (K 72))
  | 14 => .inl (0, 64, .inl (K 73))
  | 15 => .inr (1, [.inr (.inr (some (A 16 0)))])
  | 16 => .inl (1, 157, .inr (.inl (L 0)))
  | 17 => .inr (4, [.inr (.inr (some (A 18 0))), .inl (K 80 0)])
  | 18 => .inl (0, nN K 81 0, .inl (K 82))
  | 19 => oar 5 200 (fun j => dec A 1 (K 5 j))
  | _ => oar 3 12 (fun j => some (A 8 (j + 1)))
/-- which objects are there: n stages, F failures -/
def liv (n F : Nat) (K : MS) (k i : Nat) : Prop := match k with
  | 1 => 1 ≤ i ∧ i ≤ n
  | 2 => 1 ≤ i ∧ i ≤ n
  | 3 => 1 ≤ i ∧ i ≤ n
  | 4 => (1 ≤ i ∧ i ≤ n) ∧ isWK K i = true
  | 5 => (1 ≤ i ∧ i ≤ n) ∧ isWK K i = true
  | 6 => 1 ≤ i ∧ i ≤ F
  | 7 => 1 ≤ i ∧ i ≤ F
  | 8 => 1 ≤ i ∧ i ≤ 12
  | 9 => i ≤ 13
  | 10 => i ≤ 13 ∧ ¬ K 65 i = 0
  | k => k ≤ 20 ∧ i = 0
/-- fields that hold stages, failures -/
def isSR (f : Nat) : Bool := decide (f = 5 ∨ (1000 ≤ f ∧ f < 2000) ∨ (4000 ≤ f ∧ f < 10000))
def isFR (f : Nat) : Bool := decide (f = 18 ∨ f = 52 ∨ f = 58 ∨ (3000 ≤ f ∧ f < 4000) ∨ 10000 ≤ f)
/-- whose the int (f, j) is -/
def own (f j : Nat) : Nat × Nat :=
  if f < 5 then (0, 0) else if f = 5 then (19, 0) else if f < 10 then (99, 0) else if f = 12 then (2, j) else if f = 34 then (4, j) else if f = 35 then (5, j) else if f < 36 then (1, j) else if f < 50 then (99, 0) else if f = 53 then (7, j) else if f < 59 then (6, j) else if f = 59 then (99, 0) else if f < 63 then (8, j) else if f < 66 then (9, j) else if f = 66 then (99, 0) else if f = 67 then (10, j) else if f < 70 then (99, 0) else if f = 70 then (11, 0) else if f = 71 then (12, 0) else if f = 72 then (13, 0) else if f = 73 then (14, 0) else if f < 80 then (99, 0) else if f = 80 then (17, 0) else if f < 83 then (18, 0) else if f < 1000 then (99, 0) else if f < 2000 then (2, f - 1000) else if f < 3000 then (4, f - 2000) else if f < 4000 then (5, f - 3000) else if f < 10000 then (10, f - 4000) else (7, f - 10000)
/-- what the objects that are there hold is there too -/
def RB (n F : Nat) (K : MS) : Prop := (∀ f j, isSR f = true → liv n F K (own f j).1 (own f j).2 → nN K f j ≤ n) ∧ (∀ f j, isFR f = true → liv n F K (own f j).1 (own f j).2 → nN K f j ≤ F)
def KR (Y : YT) (G : GH) (A : AS) (n F : Nat) (K : MS) (L : KL) : Prop := (∀ k i, liv n F K k i → G (A k i) = some (cel Y A K L k i)) ∧ (∀ k i k' i', liv n F K k i → liv n F K k' i' → A k i = A k' i' → k = k' ∧ i = i') ∧ n ≤ 201 ∧ F ≤ 2000 ∧ RB n F K
theorem own_2 {i : Nat} (j : Nat) (h : i < 1000) : own (1000 + i) j = (2, i) := by
  unfold own; repeat (first | rw [if_neg (by omega)] | rw [if_pos (by omega)])
  rw [Nat.add_sub_cancel_left]
theorem own_4 {i : Nat} (j : Nat) (h : i < 1000) : own (2000 + i) j = (4, i) := by
  unfold own; repeat (first | rw [if_neg (by omega)] | rw [if_pos (by omega)])
  rw [Nat.add_sub_cancel_left]
theorem own_5 {i : Nat} (j : Nat) (h : i < 1000) : own (3000 + i) j = (5, i) := by
  unfold own; repeat (first | rw [if_neg (by omega)] | rw [if_pos (by omega)])
  rw [Nat.add_sub_cancel_left]
theorem own_10 {i : Nat} (j : Nat) (h : i < 1000) : own (4000 + i) j = (10, i) := by
  unfold own; repeat (first | rw [if_neg (by omega)] | rw [if_pos (by omega)])
  rw [Nat.add_sub_cancel_left]
theorem own_7 {i : Nat} (j : Nat) : own (10000 + i) j = (7, i) := by
  unfold own; repeat (first | rw [if_neg (by omega)] | rw [if_pos (by omega)])
  rw [Nat.add_sub_cancel_left]
theorem sg_congr {w : Bool} {σ τ : Nat → Int32} {ρ ρ' : Nat → Option Nat} (h : ∀ j, j ≠ 2 → j ≠ 5 → j ≠ 8 → j ≠ 21 → j ≠ 24 → j ≠ 25 → j < 26 → σ j = τ j) (h2 : ∀ j, j = 2 ∨ j = 5 ∨ j = 8 ∨ j = 21 ∨ j = 24 ∨ j = 25 → ρ j = ρ' j) : stC w σ ρ = stC w τ ρ' := by
  unfold stC stL
  rw [h 0 (by decide) (by decide) (by decide) (by decide) (by decide) (by decide) (by decide), h 1 (by decide) (by decide) (by decide) (by decide) (by decide) (by decide) (by decide), h 3 (by decide) (by decide) (by decide) (by decide) (by decide) (by decide) (by decide), h 4 (by decide) (by decide) (by decide) (by decide) (by decide) (by decide) (by decide), h 6 (by decide) (by decide) (by decide) (by decide) (by decide) (by decide) (by decide), h 7 (by decide) (by decide) (by decide) (by decide) (by decide) (by decide) (by decide), h 9 (by decide) (by decide) (by decide) (by decide) (by decide) (by decide) (by decide), h 10 (by decide) (by decide) (by decide) (by decide) (by decide) (by decide) (by decide), h 11 (by decide) (by decide) (by decide) (by decide) (by decide) (by decide) (by decide), h 12 (by decide) (by decide) (by decide) (by decide) (by decide) (by decide) (by decide), h2 2 (by decide), h2 5 (by decide), h2 8 (by decide)]
  cases w
  · rfl
  · simp only [h 13 (by decide) (by decide) (by decide) (by decide) (by decide) (by decide) (by decide), h 14 (by decide) (by decide) (by decide) (by decide) (by decide) (by decide) (by decide), h 15 (by decide) (by decide) (by decide) (by decide) (by decide) (by decide) (by decide), h 16 (by decide) (by decide) (by decide) (by decide) (by decide) (by decide) (by decide), h 17 (by decide) (by decide) (by decide) (by decide) (by decide) (by decide) (by decide), h 18 (by decide) (by decide) (by decide) (by decide) (by decide) (by decide) (by decide), h 19 (by decide) (by decide) (by decide) (by decide) (by decide) (by decide) (by decide), h 20 (by decide) (by decide) (by decide) (by decide) (by decide) (by decide) (by decide), h 22 (by decide) (by decide) (by decide) (by decide) (by decide) (by decide) (by decide), h 23 (by decide) (by decide) (by decide) (by decide) (by decide) (by decide) (by decide), h2 21 (by decide), h2 24 (by decide), h2 25 (by decide)]
theorem own_1 {j i : Nat} (h1 : j < 26) (h2 : j ≠ 2) (h3 : j ≠ 24) (h4 : j ≠ 25) : own (10 + j) i = (1, i) := by
  unfold own; repeat (first | rw [if_neg (by omega)] | rw [if_pos (by omega)])
theorem liv_lt {n F : Nat} {K : MS} {k i : Nat} (h : liv n F K k i) (hn : n ≤ 201) (h6 : k ≠ 6) (h7 : k ≠ 7) : i < 1000 := by
  unfold liv at h
  split at h <;> first | omega | (exact absurd rfl h6) | (exact absurd rfl h7)
theorem cel_own {Y : YT} {A : AS} {K K' : MS} {L : KL} {n F : Nat} (hn : n ≤ 201) : ∀ (k i : Nat), liv n F K k i → (∀ f j, own f j = (k, i) → K f j = K' f j) → cel Y A K L k i = cel Y A K' L k i
  | 0, i, hl, h => by
    obtain rfl : i = 0 := hl.2
    show (Sum.inr (8, mnL A K) : AC) = Sum.inr (8, mnL A K')
    unfold mnL; rw [h 0 0 rfl, h 1 0 rfl, h 2 0 rfl, h 3 0 rfl, h 4 0 rfl]
  | 1, i, hl, h => by
    have e1 : isWK K i = isWK K' i := by unfold isWK; rw [h 11 i rfl]
    show stC (isWK K i) (sgK K i) (rhK A K i) = stC (isWK K' i) (sgK K' i) (rhK A K' i)
    rw [e1]
    refine sg_congr (fun j h2 h5 h8 h21 h24 h25 h26 => h (10 + j) i (own_1 h26 h2 h24 h25)) (fun j hj => ?_)
    rcases hj with rfl | rfl | rfl | rfl | rfl | rfl
    · show some (A 2 i) = some (A 2 i); rfl
    · show some (A 3 i) = some (A 3 i); rfl
    · show dec A 6 (K 18 i) = dec A 6 (K' 18 i); rw [h 18 i rfl]
    · show dec A 8 (K 31 i) = dec A 8 (K' 31 i); rw [h 31 i rfl]
    · show some (A 4 i) = some (A 4 i); rfl
    · show some (A 5 i) = some (A 5 i); rfl
  | 2, i, hl, h => by
    have hi := liv_lt hl hn (by decide) (by decide)
    show oar 5 (nN K 12 i) (fun j => dec A 1 (K (1000 + i) j)) = oar 5 (nN K' 12 i) (fun j => dec A 1 (K' (1000 + i) j))
    have e : (fun j => dec A 1 (K (1000 + i) j)) = (fun j => dec A 1 (K' (1000 + i) j)) := funext (fun j => by rw [h _ j (own_2 j hi)])
    rw [e, nN, nN, h 12 i rfl]
  | 3, i, hl, h => by show (Sum.inl (1, 4, Sum.inr (Sum.inl (L (1 + i)))) : AC) = Sum.inl (1, 4, Sum.inr (Sum.inl (L (1 + i)))); rfl
  | 4, i, hl, h => by
    have hi := liv_lt hl hn (by decide) (by decide)
    show (Sum.inl (0, nN K 34 i, Sum.inl (K (2000 + i))) : AC) = Sum.inl (0, nN K' 34 i, Sum.inl (K' (2000 + i)))
    have e : K (2000 + i) = K' (2000 + i) := funext (fun j => h _ j (own_4 j hi))
    rw [e, nN, nN, h 34 i rfl]
  | 5, i, hl, h => by
    have hi := liv_lt hl hn (by decide) (by decide)
    show oar 4 (nN K 35 i) (fun j => dec A 6 (K (3000 + i) j)) = oar 4 (nN K' 35 i) (fun j => dec A 6 (K' (3000 + i) j))
    have e : (fun j => dec A 6 (K (3000 + i) j)) = (fun j => dec A 6 (K' (3000 + i) j)) := funext (fun j => by rw [h _ j (own_5 j hi)])
    rw [e, nN, nN, h 35 i rfl]
  | 6, i, hl, h => by
    show fC (K 50 i) (K 51 i) (dec A 6 (K 52 i)) (some (A 7 i)) (K 54 i) (K 55 i) (K 56 i) (K 57 i) (dec A 6 (K 58 i)) = fC (K' 50 i) (K' 51 i) (dec A 6 (K' 52 i)) (some (A 7 i)) (K' 54 i) (K' 55 i) (K' 56 i) (K' 57 i) (dec A 6 (K' 58 i))
    rw [h 50 i rfl, h 51 i rfl, h 52 i rfl, h 54 i rfl, h 55 i rfl, h 56 i rfl, h 57 i rfl, h 58 i rfl]
  | 7, i, hl, h => by
    show oar 4 (nN K 53 i) (fun j => dec A 6 (K (10000 + i) j)) = oar 4 (nN K' 53 i) (fun j => dec A 6 (K' (10000 + i) j))
    have e : (fun j => dec A 6 (K (10000 + i) j)) = (fun j => dec A 6 (K' (10000 + i) j)) := funext (fun j => by rw [h _ j (own_7 j)])
    rw [e, nN, nN, h 53 i rfl]
  | 8, i, hl, h => by
    show (Sum.inr (2, [.inl (K 60 i), .inr (.inr (some (A 9 i))), .inl (K 61 i), .inl (K 62 i)]) : AC) = Sum.inr (2, [.inl (K' 60 i), .inr (.inr (some (A 9 i))), .inl (K' 61 i), .inl (K' 62 i)])
    rw [h 60 i rfl, h 61 i rfl, h 62 i rfl]
  | 9, i, hl, h => by
    show (Sum.inr (0, [.inl (K 63 i), .inr (.inr (some (if K 65 i = 0 then Y.2.2 0 else A 10 i))), .inl (K 64 i)]) : AC) = Sum.inr (0, [.inl (K' 63 i), .inr (.inr (some (if K' 65 i = 0 then Y.2.2 0 else A 10 i))), .inl (K' 64 i)])
    rw [h 63 i rfl, h 64 i rfl, h 65 i rfl]
  | 10, i, hl, h => by
    have hi := liv_lt hl hn (by decide) (by decide)
    show oar 6 (nN K 67 i) (fun j => dec A 1 (K (4000 + i) j)) = oar 6 (nN K' 67 i) (fun j => dec A 1 (K' (4000 + i) j))
    have e : (fun j => dec A 1 (K (4000 + i) j)) = (fun j => dec A 1 (K' (4000 + i) j)) := funext (fun j => by rw [h _ j (own_10 j hi)])
    rw [e, nN, nN, h 67 i rfl]
  | 11, i, hl, h => by
    obtain rfl : i = 0 := hl.2
    show (Sum.inr (5, [.inr (.inr (some (A 12 0))), .inr (.inr (some (A 13 0))), .inr (.inr (some (A 14 0))), .inl (K 70 0)]) : AC) = Sum.inr (5, [.inr (.inr (some (A 12 0))), .inr (.inr (some (A 13 0))), .inr (.inr (some (A 14 0))), .inl (K' 70 0)])
    rw [h 70 0 rfl]
  | 12, i, hl, h => by
    obtain rfl : i = 0 := hl.2
    show (Sum.inl (0, 64, Sum.inl (K 71)) : AC) = Sum.inl (0, 64, Sum.inl (K' 71))
    rw [show K 71 = K' 71 from funext (fun j => h 71 j rfl)]
  | 13, i, hl, h => by
    obtain rfl : i = 0 := hl.2
    show (Sum.inl (0, 64, Sum.inl (K 72)) : AC) = Sum.inl (0, 64, Sum.inl (K' 72))
    rw [show K 72 = K' 72 from funext (fun j => h 72 j rfl)]
  | 14, i, hl, h => by
    obtain rfl : i = 0 := hl.2
    show (Sum.inl (0, 64, Sum.inl (K 73)) : AC) = Sum.inl (0, 64, Sum.inl (K' 73))
    rw [show K 73 = K' 73 from funext (fun j => h 73 j rfl)]
  | 15, i, hl, h => by show (Sum.inr (1, [.inr (.inr (some (A 16 0)))]) : AC) = Sum.inr (1, [.inr (.inr (some (A 16 0)))]); rfl
  | 16, i, hl, h => by show (Sum.inl (1, 157, Sum.inr (Sum.inl (L 0))) : AC) = Sum.inl (1, 157, Sum.inr (Sum.inl (L 0))); rfl
  | 17, i, hl, h => by
    obtain rfl : i = 0 := hl.2
    show (Sum.inr (4, [.inr (.inr (some (A 18 0))), .inl (K 80 0)]) : AC) = Sum.inr (4, [.inr (.inr (some (A 18 0))), .inl (K' 80 0)])
    rw [h 80 0 rfl]
  | 18, i, hl, h => by
    obtain rfl : i = 0 := hl.2
    show (Sum.inl (0, nN K 81 0, Sum.inl (K 82)) : AC) = Sum.inl (0, nN K' 81 0, Sum.inl (K' 82))
    rw [show K 82 = K' 82 from funext (fun j => h 82 j rfl), nN, nN, h 81 0 rfl]
  | 19, i, hl, h => by
    obtain rfl : i = 0 := hl.2
    show oar 5 200 (fun j => dec A 1 (K 5 j)) = oar 5 200 (fun j => dec A 1 (K' 5 j))
    rw [show K 5 = K' 5 from funext (fun j => h 5 j rfl)]
  | k + 20, i, hl, h => by show oar 3 12 (fun j => some (A 8 (j + 1))) = oar 3 12 (fun j => some (A 8 (j + 1))); rfl
theorem liv_eq {n F : Nat} {K K' : MS} {k i : Nat} (h11 : ∀ j, K' 11 j = K 11 j) (h65 : ∀ j, K' 65 j = K 65 j) : liv n F K' k i = liv n F K k i := by
  unfold liv isWK; rw [h11 i, h65 i]
/-- the object (k, i) changes -/
theorem KR.put {Y : YT} {G : GH} {A : AS} {n F : Nat} {K : MS} {L : KL} (h : KR Y G A n F K L) {k i : Nat} (hl : liv n F K k i) (K' : MS) (hK : ∀ f j, own f j ≠ (k, i) → K' f j = K f j) (h11 : ∀ j, K' 11 j = K 11 j) (h65 : ∀ j, K' 65 j = K 65 j) (hr : RB n F K') : KR Y (va_up G (A k i) (some (cel Y A K' L k i))) A n F K' L := by
  obtain ⟨h1, h2, h3, h4, -⟩ := h
  refine ⟨fun k2 i2 hl2 => ?_, fun k2 i2 k3 i3 hl2 hl3 => h2 k2 i2 k3 i3 (by rw [liv_eq h11 h65] at hl2; exact hl2) (by rw [liv_eq h11 h65] at hl3; exact hl3), h3, h4, hr⟩
  rw [liv_eq h11 h65] at hl2
  by_cases e : k2 = k ∧ i2 = i
  · obtain ⟨rfl, rfl⟩ := e
    exact up_eq
  · rw [up_ne (fun q => e (h2 k2 i2 k i hl2 hl q)), h1 k2 i2 hl2]
    exact congrArg some (cel_own h3 k2 i2 hl2 (fun f j hf => (hK f j (fun q => e (by rw [hf] at q; exact ⟨congrArg Prod.fst q, congrArg Prod.snd q⟩))).symm))
theorem up2_n {K : MS} {f j f' j' : Nat} {v : Int32} (h : ¬ (f' = f ∧ j' = j)) : up2 K f j v f' j' = K f' j' := by
  by_cases e : f' = f
  · subst e; exact up2_i (fun q => h ⟨rfl, q⟩)
  · rw [up2_f e]
theorem RB.up {n F : Nat} {K : MS} (h : RB n F K) {f j : Nat} (v : Int32) (h11 : f ≠ 11) (h65 : f ≠ 65) (hS : isSR f = true → v.toNatClampNeg ≤ n) (hF : isFR f = true → v.toNatClampNeg ≤ F) : RB n F (up2 K f j v) := by
  have e : ∀ k i, liv n F (up2 K f j v) k i = liv n F K k i := fun k i => liv_eq (fun j' => up2_n (fun e => h11 e.1.symm)) (fun j' => up2_n (fun e => h65 e.1.symm))
  refine ⟨fun f' j' h1 h2 => ?_, fun f' j' h1 h2 => ?_⟩
  · rw [e] at h2
    by_cases q : f' = f ∧ j' = j
    · obtain ⟨rfl, rfl⟩ := q
      rw [nN, up2_s]; exact hS h1
    · rw [nN, up2_n q]; exact h.1 f' j' h1 h2
  · rw [e] at h2
    by_cases q : f' = f ∧ j' = j
    · obtain ⟨rfl, rfl⟩ := q
      rw [nN, up2_s]; exact hF h1
    · rw [nN, up2_n q]; exact h.2 f' j' h1 h2
theorem isR_0 {f : Nat} (h : f < 1000) (h5 : f ≠ 5) (h18 : f ≠ 18) (h52 : f ≠ 52) (h58 : f ≠ 58) : isSR f = false ∧ isFR f = false := ⟨decide_eq_false (by omega), decide_eq_false (by omega)⟩
theorem KR.put1 {Y : YT} {G : GH} {A : AS} {n F : Nat} {K : MS} {L : KL} (h : KR Y G A n F K L) {k i f j : Nat} (hl : liv n F K k i) (v : Int32) (ho : own f j = (k, i)) (h11 : f ≠ 11) (h65 : f ≠ 65) (hS : isSR f = true → v.toNatClampNeg ≤ n) (hF : isFR f = true → v.toNatClampNeg ≤ F) : KR Y (va_up G (A k i) (some (cel Y A (up2 K f j v) L k i))) A n F (up2 K f j v) L :=
  h.put hl _ (fun f' j' q => up2_n (fun e => q (by rw [e.1, e.2]; exact ho))) (fun j' => up2_n (fun e => h11 e.1.symm)) (fun j' => up2_n (fun e => h65 e.1.symm)) (h.2.2.2.2.up v h11 h65 hS hF)
/-- may the int j of a stage be put? -/
def isP (j : Nat) : Bool := match j with | 1 => false | 2 => false | 5 => false | 8 => false | 21 => false | 24 => false | 25 => false | j => decide (j < 26)
theorem isP_of {j : Nat} (h : isP j = true) : j ≠ 1 ∧ j ≠ 2 ∧ j ≠ 5 ∧ j ≠ 8 ∧ j ≠ 21 ∧ j ≠ 24 ∧ j ≠ 25 ∧ j < 26 := by
  unfold isP at h
  split at h
  · cases h
  · cases h
  · cases h
  · cases h
  · cases h
  · cases h
  · cases h
  · exact ⟨by assumption, by assumption, by assumption, by assumption, by assumption, by assumption, by assumption, of_decide_eq_true h⟩
theorem KR.st {Y : YT} {G : GH} {A : AS} {n F : Nat} {K : MS} {L : KL} (h : KR Y G A n F K L) {i : Nat} (hi : 1 ≤ i ∧ i ≤ n) : G (A 1 i) = some (stC (isWK K i) (sgK K i) (rhK A K i)) := h.1 1 i hi
theorem KR.wk {Y : YT} {G : GH} {A : AS} {n F : Nat} {K : MS} {L : KL} (h : KR Y G A n F K L) {i : Nat} (hi : 1 ≤ i ∧ i ≤ n) (hw : isWK K i = true) : G (A 1 i) = some (stC true (sgK K i) (rhK A K i)) := by rw [h.st hi, hw]
/-- an int of stage i gets v -/
theorem KR.pS {Y : YT} {G : GH} {A : AS} {n F : Nat} {K : MS} {L : KL} (h : KR Y G A n F K L) {i : Nat} (hi : 1 ≤ i ∧ i ≤ n) (j : Nat) (v : Int32) (hj : isP j = true) : KR Y (va_up G (A 1 i) (some (stC (isWK K i) (upd (sgK K i) j v) (rhK A K i)))) A n F (up2 K (10 + j) i v) L := by
  obtain ⟨j1, j2, j5, j8, j21, j24, j25, j26⟩ := isP_of hj
  have h1 := h.put1 (k := 1) (i := i) hi v (own_1 (i := i) j26 j2 j24 j25) (by omega) (by omega) (fun q => by rw [(isR_0 (f := 10 + j) (by omega) (by omega) (by omega) (by omega) (by omega)).1] at q; cases q) (fun q => by rw [(isR_0 (f := 10 + j) (by omega) (by omega) (by omega) (by omega) (by omega)).2] at q; cases q)
  have e : cel Y A (up2 K (10 + j) i v) L 1 i = stC (isWK K i) (upd (sgK K i) j v) (rhK A K i) := by
    show stC (isWK (up2 K (10 + j) i v) i) (sgK (up2 K (10 + j) i v) i) (rhK A (up2 K (10 + j) i v) i) = _
    have e1 : isWK (up2 K (10 + j) i v) i = isWK K i := by unfold isWK; rw [up2_f (by omega)]
    rw [e1]
    refine sg_congr (fun q _ _ _ _ _ _ _ => ?_) (fun q hq => ?_)
    · show up2 K (10 + j) i v (10 + q) i = upd (sgK K i) j v q
      by_cases e : q = j
      · subst e; rw [up2_s]; simp [upd]
      · rw [up2_f (by omega)]; simp [upd, e, sgK]
    · rcases hq with rfl | rfl | rfl | rfl | rfl | rfl
      · show some (A 2 i) = some (A 2 i); rfl
      · show some (A 3 i) = some (A 3 i); rfl
      · show dec A 6 (up2 K (10 + j) i v 18 i) = dec A 6 (K 18 i); rw [up2_f (by omega)]
      · show dec A 8 (up2 K (10 + j) i v 31 i) = dec A 8 (K 31 i); rw [up2_f (by omega)]
      · show some (A 4 i) = some (A 4 i); rfl
      · show some (A 5 i) = some (A 5 i); rfl
  rw [e] at h1
  exact h1
/-- the failure of stage i -/
theorem KR.p8 {Y : YT} {G : GH} {A : AS} {n F : Nat} {K : MS} {L : KL} (h : KR Y G A n F K L) {i : Nat} (hi : 1 ≤ i ∧ i ≤ n) (v : Int32) (hv : v.toNatClampNeg ≤ F) : KR Y (va_up G (A 1 i) (some (stC (isWK K i) (sgK K i) (va_up (rhK A K i) 8 (dec A 6 v))))) A n F (up2 K 18 i v) L := by
  have h1 := h.put1 (k := 1) (i := i) (f := 18) (j := i) hi v rfl (by decide) (by decide) (fun q => by cases q) (fun _ => hv)
  have e : cel Y A (up2 K 18 i v) L 1 i = stC (isWK K i) (sgK K i) (va_up (rhK A K i) 8 (dec A 6 v)) := by
    show stC (isWK (up2 K 18 i v) i) (sgK (up2 K 18 i v) i) (rhK A (up2 K 18 i v) i) = _
    have e1 : isWK (up2 K 18 i v) i = isWK K i := by unfold isWK; rw [up2_f (by decide)]
    rw [e1]
    refine sg_congr (fun q _ _ q8 _ _ _ _ => ?_) (fun q hq => ?_)
    · show up2 K 18 i v (10 + q) i = K (10 + q) i
      rw [up2_f (by omega)]
    · rcases hq with rfl | rfl | rfl | rfl | rfl | rfl
      · show some (A 2 i) = some (A 2 i); rfl
      · show some (A 3 i) = some (A 3 i); rfl
      · show dec A 6 (up2 K 18 i v 18 i) = dec A 6 v; rw [up2_s]
      · show dec A 8 (K 31 i) = dec A 8 (K 31 i); rfl
      · show some (A 4 i) = some (A 4 i); rfl
      · show some (A 5 i) = some (A 5 i); rfl
  rw [e] at h1
  exact h1
/-- the holder of work i -/
theorem KR.p21 {Y : YT} {G : GH} {A : AS} {n F : Nat} {K : MS} {L : KL} (h : KR Y G A n F K L) {i : Nat} (hi : 1 ≤ i ∧ i ≤ n) (v : Int32) : KR Y (va_up G (A 1 i) (some (stC (isWK K i) (sgK K i) (va_up (rhK A K i) 21 (dec A 8 v))))) A n F (up2 K 31 i v) L := by
  have h1 := h.put1 (k := 1) (i := i) (f := 31) (j := i) hi v rfl (by decide) (by decide) (fun q => by cases q) (fun q => by cases q)
  have e : cel Y A (up2 K 31 i v) L 1 i = stC (isWK K i) (sgK K i) (va_up (rhK A K i) 21 (dec A 8 v)) := by
    show stC (isWK (up2 K 31 i v) i) (sgK (up2 K 31 i v) i) (rhK A (up2 K 31 i v) i) = _
    have e1 : isWK (up2 K 31 i v) i = isWK K i := by unfold isWK; rw [up2_f (by decide)]
    rw [e1]
    refine sg_congr (fun q _ _ _ q21 _ _ _ => ?_) (fun q hq => ?_)
    · show up2 K 31 i v (10 + q) i = K (10 + q) i
      rw [up2_f (by omega)]
    · rcases hq with rfl | rfl | rfl | rfl | rfl | rfl
      · show some (A 2 i) = some (A 2 i); rfl
      · show some (A 3 i) = some (A 3 i); rfl
      · show dec A 6 (K 18 i) = dec A 6 (K 18 i); rfl
      · show dec A 8 (up2 K 31 i v 31 i) = dec A 8 v; rw [up2_s]
      · show some (A 4 i) = some (A 4 i); rfl
      · show some (A 5 i) = some (A 5 i); rfl
  rw [e] at h1
  exact h1
end KRS
