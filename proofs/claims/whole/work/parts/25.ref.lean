/-! THE REFERENCE's heap: M k i is what its field k holds (a number: i = 0; an array: at i); ra k: where the array of field k lies -/
section REF
abbrev MS : Type := Nat → Nat → Int32
/-- is field k a number? -/
def isN (k : Nat) : Bool := match k with | 0 => true | 1 => true | 16 => true | 17 => true | 38 => true | 40 => true | 44 => true | 45 => true | 53 => true | 54 => true | 60 => true | 64 => true | _ => false
/-- how long the array of field k is -/
def aLen (k : Nat) : Nat := match k with | 3 => 4824 | 28 => 1206 | 31 => 1206 | 33 => 2000 | 34 => 2000 | 35 => 2000 | 36 => 2000 | 37 => 2000 | 39 => 8000 | 41 => 64 | 42 => 64 | 43 => 64 | 46 => 2613 | 47 => 13 | 48 => 13 | 49 => 13 | 50 => 4000 | 51 => 4000 | 52 => 4000 | 57 => 2000 | 58 => 2000 | 59 => 2000 | 61 => 12000 | 62 => 12000 | 63 => 12000 | 65 => 2000 | _ => 201
/-- its kind -/
def aKd (k : Nat) : Nat := match k with | 13 => 2 | 26 => 2 | 55 => 2 | 56 => 2 | 65 => 2 | _ => 0
def rfL (M : MS) (ra : Nat → Nat) : List AV := [.inl (M 0 0), .inl (M 1 0), .inr (.inr (some (ra 2))), .inr (.inr (some (ra 3))), .inr (.inr (some (ra 4))), .inr (.inr (some (ra 5))), .inr (.inr (some (ra 6))), .inr (.inr (some (ra 7))), .inr (.inr (some (ra 8))), .inr (.inr (some (ra 9))), .inr (.inr (some (ra 10))), .inr (.inr (some (ra 11))), .inr (.inr (some (ra 12))), .inr (.inr (some (ra 13))), .inr (.inr (some (ra 14))), .inr (.inr (some (ra 15))), .inl (M 16 0), .inl (M 17 0), .inr (.inr (some (ra 18))), .inr (.inr (some (ra 19))), .inr (.inr (some (ra 20))), .inr (.inr (some (ra 21))), .inr (.inr (some (ra 22))), .inr (.inr (some (ra 23))), .inr (.inr (some (ra 24))), .inr (.inr (some (ra 25))), .inr (.inr (some (ra 26))), .inr (.inr (some (ra 27))), .inr (.inr (some (ra 28))), .inr (.inr (some (ra 29))), .inr (.inr (some (ra 30))), .inr (.inr (some (ra 31))), .inr (.inr (some (ra 32))), .inr (.inr (some (ra 33))), .inr (.inr (some (ra 34))), .inr (.inr (some (ra 35))), .inr (.inr (some (ra 36))), .inr (.inr (some (ra 37))), .inl (M 38 0), .inr (.inr (some (ra 39))), .inl (M 40 0), .inr (.inr (some (ra 41))), .inr (.inr (some (ra 42))), .inr (.inr (some (ra 43))), .inl (M 44 0), .inl (M 45 0), .inr (.inr (some (ra 46))), .inr (.inr (some (ra 47))), .inr (.inr (some (ra 48))), .inr (.inr (some (ra 49))), .inr (.inr (some (ra 50))), .inr (.inr (some (ra 51))), .inr (.inr (some (ra 52))), .inl (M 53 0), .inl (M 54 0), .inr (.inr (some (ra 55))), .inr (.inr (some (ra 56))), .inr (.inr (some (ra 57))), .inr (.inr (some (ra 58))), .inr (.inr (some (ra 59))), .inl (M 60 0), .inr (.inr (some (ra 61))), .inr (.inr (some (ra 62))), .inr (.inr (some (ra 63))), .inl (M 64 0), .inr (.inr (some (ra 65)))]
/-- field k of M gets v at i -/
def up2 (M : MS) (k i : Nat) (v : Int32) : MS := fun f => if f = k then upd (M k) i v else M f
def RR (G : GH) (x : Nat) (ra : Nat → Nat) (M : MS) : Prop := G x = some (.inr (9, rfL M ra)) ∧ (∀ k, k < 66 → isN k = false → G (ra k) = some (.inl (aKd k, aLen k, .inl (M k)))) ∧ (∀ j k, j < 66 → k < 66 → isN j = false → isN k = false → ra j = ra k → j = k)
theorem up2_s (M : MS) (k i : Nat) (v : Int32) : up2 M k i v k i = v := by simp [up2, upd]
theorem up2_f {M : MS} {k i f : Nat} {v : Int32} (h : f ≠ k) : up2 M k i v f = M f := by simp [up2, h]
theorem up2_i {M : MS} {k i j : Nat} {v : Int32} (h : j ≠ i) : up2 M k i v k j = M k j := by simp [up2, upd, h]
theorem rfL_congr {M M' : MS} {ra : Nat → Nat} (h : ∀ k, k < 66 → isN k = true → M k 0 = M' k 0) : rfL M ra = rfL M' ra := by
  simp only [rfL, h 0 (by decide) rfl, h 1 (by decide) rfl, h 16 (by decide) rfl, h 17 (by decide) rfl, h 38 (by decide) rfl, h 40 (by decide) rfl, h 44 (by decide) rfl, h 45 (by decide) rfl, h 53 (by decide) rfl, h 54 (by decide) rfl, h 60 (by decide) rfl, h 64 (by decide) rfl]
theorem RR.st {G : GH} {x : Nat} {ra : Nat → Nat} {M : MS} (h : RR G x ra M) (k i : Nat) (v : Int32) (hk : k < 66) (hn : isN k = false) : RR (va_up G (ra k) (some (.inl (aKd k, aLen k, .inl (upd (M k) i v))))) x ra (up2 M k i v) := by
  obtain ⟨h1, h2, h3⟩ := h
  have hx : x ≠ ra k := fun e => by rw [e, h2 k hk hn] at h1; cases h1
  refine ⟨?_, fun j hj hjn => ?_, h3⟩
  · rw [up_ne hx, h1, rfL_congr (M' := up2 M k i v) (fun j hj hjn => ?_)]
    rw [up2_f (fun e => by rw [e, hn] at hjn; cases hjn)]
  · by_cases e : j = k
    · subst e; rw [up_eq]; simp [up2]
    · rw [up_ne (fun q => e (h3 j k hj hk hjn hn q)), h2 j hj hjn, up2_f e]

theorem RR.s0 {G : GH} {x : Nat} {ra : Nat → Nat} {M : MS} (h : RR G x ra M) (v : Int32) : RR (va_up G x (some (.inr (9, rfL (up2 M 0 0 v) ra)))) x ra (up2 M 0 0 v) :=
  ⟨up_eq, fun j hj hjn => by rw [up_ne (fun e => by have h2 := h.2.1 j hj hjn; rw [e, h.1] at h2; cases h2), up2_f (fun e => by subst e; cases hjn)]; exact h.2.1 j hj hjn, h.2.2⟩
theorem RR.s1 {G : GH} {x : Nat} {ra : Nat → Nat} {M : MS} (h : RR G x ra M) (v : Int32) : RR (va_up G x (some (.inr (9, rfL (up2 M 1 0 v) ra)))) x ra (up2 M 1 0 v) :=
  ⟨up_eq, fun j hj hjn => by rw [up_ne (fun e => by have h2 := h.2.1 j hj hjn; rw [e, h.1] at h2; cases h2), up2_f (fun e => by subst e; cases hjn)]; exact h.2.1 j hj hjn, h.2.2⟩
theorem RR.s16 {G : GH} {x : Nat} {ra : Nat → Nat} {M : MS} (h : RR G x ra M) (v : Int32) : RR (va_up G x (some (.inr (9, rfL (up2 M 16 0 v) ra)))) x ra (up2 M 16 0 v) :=
  ⟨up_eq, fun j hj hjn => by rw [up_ne (fun e => by have h2 := h.2.1 j hj hjn; rw [e, h.1] at h2; cases h2), up2_f (fun e => by subst e; cases hjn)]; exact h.2.1 j hj hjn, h.2.2⟩
theorem RR.s17 {G : GH} {x : Nat} {ra : Nat → Nat} {M : MS} (h : RR G x ra M) (v : Int32) : RR (va_up G x (some (.inr (9, rfL (up2 M 17 0 v) ra)))) x ra (up2 M 17 0 v) :=
  ⟨up_eq, fun j hj hjn => by rw [up_ne (fun e => by have h2 := h.2.1 j hj hjn; rw [e, h.1] at h2; cases h2), up2_f (fun e => by subst e; cases hjn)]; exact h.2.1 j hj hjn, h.2.2⟩
theorem RR.s38 {G : GH} {x : Nat} {ra : Nat → Nat} {M : MS} (h : RR G x ra M) (v : Int32) : RR (va_up G x (some (.inr (9, rfL (up2 M 38 0 v) ra)))) x ra (up2 M 38 0 v) :=
  ⟨up_eq, fun j hj hjn => by rw [up_ne (fun e => by have h2 := h.2.1 j hj hjn; rw [e, h.1] at h2; cases h2), up2_f (fun e => by subst e; cases hjn)]; exact h.2.1 j hj hjn, h.2.2⟩
theorem RR.s40 {G : GH} {x : Nat} {ra : Nat → Nat} {M : MS} (h : RR G x ra M) (v : Int32) : RR (va_up G x (some (.inr (9, rfL (up2 M 40 0 v) ra)))) x ra (up2 M 40 0 v) :=
  ⟨up_eq, fun j hj hjn => by rw [up_ne (fun e => by have h2 := h.2.1 j hj hjn; rw [e, h.1] at h2; cases h2), up2_f (fun e => by subst e; cases hjn)]; exact h.2.1 j hj hjn, h.2.2⟩
theorem RR.s44 {G : GH} {x : Nat} {ra : Nat → Nat} {M : MS} (h : RR G x ra M) (v : Int32) : RR (va_up G x (some (.inr (9, rfL (up2 M 44 0 v) ra)))) x ra (up2 M 44 0 v) :=
  ⟨up_eq, fun j hj hjn => by rw [up_ne (fun e => by have h2 := h.2.1 j hj hjn; rw [e, h.1] at h2; cases h2), up2_f (fun e => by subst e; cases hjn)]; exact h.2.1 j hj hjn, h.2.2⟩
theorem RR.s45 {G : GH} {x : Nat} {ra : Nat → Nat} {M : MS} (h : RR G x ra M) (v : Int32) : RR (va_up G x (some (.inr (9, rfL (up2 M 45 0 v) ra)))) x ra (up2 M 45 0 v) :=
  ⟨up_eq, fun j hj hjn => by rw [up_ne (fun e => by have h2 := h.2.1 j hj hjn; rw [e, h.1] at h2; cases h2), up2_f (fun e => by subst e; cases hjn)]; exact h.2.1 j hj hjn, h.2.2⟩
theorem RR.s53 {G : GH} {x : Nat} {ra : Nat → Nat} {M : MS} (h : RR G x ra M) (v : Int32) : RR (va_up G x (some (.inr (9, rfL (up2 M 53 0 v) ra)))) x ra (up2 M 53 0 v) :=
  ⟨up_eq, fun j hj hjn => by rw [up_ne (fun e => by have h2 := h.2.1 j hj hjn; rw [e, h.1] at h2; cases h2), up2_f (fun e => by subst e; cases hjn)]; exact h.2.1 j hj hjn, h.2.2⟩
theorem RR.s54 {G : GH} {x : Nat} {ra : Nat → Nat} {M : MS} (h : RR G x ra M) (v : Int32) : RR (va_up G x (some (.inr (9, rfL (up2 M 54 0 v) ra)))) x ra (up2 M 54 0 v) :=
  ⟨up_eq, fun j hj hjn => by rw [up_ne (fun e => by have h2 := h.2.1 j hj hjn; rw [e, h.1] at h2; cases h2), up2_f (fun e => by subst e; cases hjn)]; exact h.2.1 j hj hjn, h.2.2⟩
theorem RR.s60 {G : GH} {x : Nat} {ra : Nat → Nat} {M : MS} (h : RR G x ra M) (v : Int32) : RR (va_up G x (some (.inr (9, rfL (up2 M 60 0 v) ra)))) x ra (up2 M 60 0 v) :=
  ⟨up_eq, fun j hj hjn => by rw [up_ne (fun e => by have h2 := h.2.1 j hj hjn; rw [e, h.1] at h2; cases h2), up2_f (fun e => by subst e; cases hjn)]; exact h.2.1 j hj hjn, h.2.2⟩
theorem RR.s64 {G : GH} {x : Nat} {ra : Nat → Nat} {M : MS} (h : RR G x ra M) (v : Int32) : RR (va_up G x (some (.inr (9, rfL (up2 M 64 0 v) ra)))) x ra (up2 M 64 0 v) :=
  ⟨up_eq, fun j hj hjn => by rw [up_ne (fun e => by have h2 := h.2.1 j hj hjn; rw [e, h.1] at h2; cases h2), up2_f (fun e => by subst e; cases hjn)]; exact h.2.1 j hj hjn, h.2.2⟩
end REF
