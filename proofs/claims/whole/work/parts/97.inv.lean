/-! the invariant of the reference -/
section INV
/-- how many inputs a sort has -/
def shp (so k : Nat) : Prop := (so = 0 ∨ so = 9 ∨ so = 10 → k = 0) ∧ (so = 1 ∨ so = 8 ∨ so = 11 ∨ so = 12 → k = 1) ∧ (so = 2 ∨ so = 3 ∨ so = 6 → 1 ≤ k ∧ k ≤ 2) ∧ (so = 7 → k = 2) ∧ (so = 4 ∨ so = 5 → 1 ≤ k)
/-- what a stage was made of -/
def iS (n : Nat) (a2 a3 a4 a5 a7 a18 a29 a30 : Nat → Nat) : Prop := a4 0 = 0 ∧ ∀ t, 1 ≤ t → t ≤ n → (a2 t ≤ 12 ∧ a4 t ≤ 24 ∧ shp (a2 t) (a4 t)) ∧ (∀ j, j < a4 t → 1 ≤ a3 (24 * t + j) ∧ a3 (24 * t + j) < t) ∧ (∀ i j, i < j → j < a4 t → a3 (24 * t + i) ≠ a3 (24 * t + j)) ∧ (a5 t ≤ 15 ∧ (a2 t ≤ 2 ∨ 9 ≤ a2 t → a5 t ≤ 4)) ∧ (a7 t ≤ 200 ∧ (a2 t = 5 → 1 ≤ a7 t ∧ a7 t ≤ a4 t) ∧ (a2 t = 6 ∨ a2 t = 7 → a7 t = a3 (24 * t + (a4 t - 1)))) ∧ (9 ≤ a2 t → 1 ≤ a18 t ∧ a18 t ≤ 60) ∧ a29 t ≤ 5 ∧ (a2 t ≠ 10 → a29 t = 0) ∧ a30 t ≤ 30
/-- what is not made yet -/
def iZ (n : Nat) (a4 a7 a8 a9 a10 a13 a21 a22 a25 a26 a27 a29 a30 : Nat → Nat) (m11 m14 : Nat → Int32) : Prop := ∀ t, t < 1 ∨ n < t → t ≤ 200 → (a4 t = 0 ∧ a7 t = 0 ∧ a8 t = 0 ∧ a9 t = 0 ∧ a10 t = 0 ∧ a13 t = 0 ∧ a21 t = 0 ∧ a22 t = 0) ∧ a25 t = 0 ∧ a26 t = 0 ∧ a27 t = 0 ∧ a29 t = 0 ∧ a30 t = 0 ∧ m11 t = 0 ∧ m14 t = -1
/-- how a stage stands -/
def dyn (k so cm wh wk pt ck pz tm : Nat) : Prop := cm ≤ 3 ∧ pz ≤ tm ∧ (so < 9 → wk = 0) ∧ wk ≤ pz + 1 ∧ (9 ≤ so → wh ≤ 4 ∧ (cm = 0 → (wh = 2 ∨ wh = 3 → wk = pz + 1 ∧ 1 ≤ ck ∧ ck ≤ k) ∧ (wh ≤ 1 ∨ wh = 4 → wk = pz) ∧ (wh = 3 → so = 11) ∧ (wh = 4 → so = 10 ∧ 1 ≤ pz) ∧ (wh = 2 → pt = 1 → so = 11) ∧ (wh = 0 → so = 12)))
def iD (n k : Nat) (a2 a8 a19 a21 a24 a25 a27 a29 : Nat → Nat) : Prop := ∀ t, 1 ≤ t → t ≤ n → dyn k (a2 t) (a8 t) (a19 t) (a21 t) (a24 t) (a25 t) (a27 t) (a29 t)
/-- who has ended, and where -/
def iE (n e : Nat) (a8 a10 a15 : Nat → Nat) : Prop := (∀ p, 1 ≤ p → p ≤ e → 1 ≤ a15 p ∧ a15 p ≤ n ∧ a8 (a15 p) ≠ 0 ∧ a10 (a15 p) = p) ∧ (∀ s, 1 ≤ s → s ≤ n → a8 s ≠ 0 → 1 ≤ a10 s ∧ a10 s ≤ e ∧ a15 (a10 s) = s) ∧ e = sumN (fun t => if a8 (t + 1) = 0 then 0 else 1) n ∧ a8 0 = 0 ∧ a10 0 = 0
/-- the failures -/
def iF (n F a : Nat) (a8 a12 a27 a31 a33 a36 a37 a39 : Nat → Nat) (m35 : Nat → Int32) : Prop := (∀ g, g < F → a33 g ≤ 15 ∧ (m35 g = -1 ∨ ∃ h, h < F ∧ m35 g = nI h) ∧ a37 g ≤ 24 ∧ a36 g + a37 g ≤ a ∧ ∀ j, j < a37 g → a39 (a36 g + j) < F) ∧ sumN a37 F ≤ a ∧ (∀ t, 1 ≤ t → t ≤ n → a8 t = 2 → a12 t < F) ∧ ∀ t, 1 ≤ t → t ≤ n → ∀ j, j < a27 t → a31 (6 * t + j) < F
/-- what a nested one may have logged besides -/
def nst (so cm wh pt : Nat) : Nat := if so = 11 then (if cm = 0 then (if wh = 3 then 1 else if wh = 2 ∧ pt = 2 then 2 else 0) else 2) else 0
/-- what all that may come to -/
def iB (n x y e F a g : Nat) (a2 a8 a19 a21 a24 a27 : Nat → Nat) : Prop := F ≤ e + sumN (fun t => a27 (t + 1)) n + x ∧ a ≤ 24 * (e + x) ∧ g ≤ e + sumN (fun t => a21 (t + 1) + a27 (t + 1) + nst (a2 (t + 1)) (a8 (t + 1)) (a19 (t + 1)) (a24 (t + 1))) n + y
def iP (n k : Nat) (a2 a8 a19 a25 : Nat → Nat) (pl : Nat → List Nat) : Prop := ∀ c, c ≤ 12 → (pl c).Nodup ∧ (c = 0 ∨ k < c → pl c = []) ∧ ∀ u ∈ pl c, 1 ≤ u ∧ u ≤ n ∧ 9 ≤ a2 u ∧ a8 u = 0 ∧ (a19 u = 2 ∨ a19 u = 3) ∧ a25 u = c
def iH (q : Nat) (a41 a42 a43 : Nat → Nat) : Prop := q ≤ 64 ∧ (∀ i, i < q → a43 i ≤ 15) ∧ ∀ i j, i < j → j < q → ¬ (a41 i = a41 j ∧ a42 i = a42 j)
def iA (n k w : Nat) (M : MS) : Prop := n ≤ 200 ∧ 1 ≤ k ∧ k ≤ 12 ∧ w ≤ 10000 ∧ nN M 1 0 = n ∧ nN M 45 0 = k ∧ nN M 0 0 = w
abbrev jS (n : Nat) (M : MS) : Prop := iS n (nN M 2) (nN M 3) (nN M 4) (nN M 5) (nN M 7) (nN M 18) (nN M 29) (nN M 30)
abbrev jZ (n : Nat) (M : MS) : Prop := iZ n (nN M 4) (nN M 7) (nN M 8) (nN M 9) (nN M 10) (nN M 13) (nN M 21) (nN M 22) (nN M 25) (nN M 26) (nN M 27) (nN M 29) (nN M 30) (M 11) (M 14)
abbrev jD (n k : Nat) (M : MS) : Prop := iD n 12 (nN M 2) (nN M 8) (nN M 19) (nN M 21) (nN M 24) (nN M 25) (nN M 27) (nN M 29)
abbrev jE (n : Nat) (M : MS) : Prop := iE n (nN M 16 0) (nN M 8) (nN M 10) (nN M 15)
abbrev jF (n : Nat) (M : MS) : Prop := iF n (nN M 38 0) (nN M 40 0) (nN M 8) (nN M 12) (nN M 27) (nN M 31) (nN M 33) (nN M 36) (nN M 37) (nN M 39) (M 35)
abbrev jB (n x y : Nat) (M : MS) : Prop := iB n x y (nN M 16 0) (nN M 38 0) (nN M 40 0) (nN M 53 0) (nN M 2) (nN M 8) (nN M 19) (nN M 21) (nN M 24) (nN M 27)
abbrev jP (n k : Nat) (M : MS) : Prop := iP n k (nN M 2) (nN M 8) (nN M 19) (nN M 25) (plM M)
abbrev jH (M : MS) : Prop := iH (nN M 44 0) (nN M 41) (nN M 42) (nN M 43)
def Inv (n k w x y : Nat) (M : MS) : Prop := NT exM M ∧ iA n k w M ∧ jS n M ∧ jZ n M ∧ jD n k M ∧ jE n M ∧ jF n M ∧ jB n x y M ∧ jP n k M ∧ jH M
variable {n k w x y y' : Nat} {M M' : MS}
theorem Inv.nt (h : Inv n k w x y M) : NT exM M := h.1
theorem Inv.a (h : Inv n k w x y M) : iA n k w M := h.2.1
theorem Inv.s (h : Inv n k w x y M) : jS n M := h.2.2.1
theorem Inv.zz (h : Inv n k w x y M) : jZ n M := h.2.2.2.1
theorem Inv.d (h : Inv n k w x y M) : jD n k M := h.2.2.2.2.1
theorem Inv.e (h : Inv n k w x y M) : jE n M := h.2.2.2.2.2.1
theorem Inv.f (h : Inv n k w x y M) : jF n M := h.2.2.2.2.2.2.1
theorem Inv.b (h : Inv n k w x y M) : jB n x y M := h.2.2.2.2.2.2.2.1
theorem Inv.p (h : Inv n k w x y M) : jP n k M := h.2.2.2.2.2.2.2.2.1
theorem Inv.hh (h : Inv n k w x y M) : jH M := h.2.2.2.2.2.2.2.2.2
theorem sumN_cb {g : Nat → Nat} {b : Nat} : ∀ {n : Nat}, (∀ j, j < n → g j ≤ b) → sumN g n ≤ b * n
  | 0, _ => Nat.zero_le _
  | n + 1, h => by
    have h1 := sumN_cb (n := n) (fun j hj => h j (by omega))
    have h2 := h n (by omega)
    rw [sumN, Nat.mul_succ]; omega
theorem iE.lt {e : Nat} {a8 a10 a15 : Nat → Nat} (h : iE n e a8 a10 a15) {t : Nat} (h1 : 1 ≤ t) (h2 : t ≤ n) (h3 : a8 t = 0) : e < n := by
  have h4 := h.2.2.1
  have h5 := sumN_one (f := fun t => if a8 (t + 1) = 0 then 0 else 1) (g := fun j => if j = t - 1 then 1 else if a8 (j + 1) = 0 then 0 else 1) (i := t - 1) (n := n) (by omega) (fun j _ hj => by simp only [if_neg hj])
  have h6 := sumN_le (f := fun j => if j = t - 1 then 1 else if a8 (j + 1) = 0 then 0 else 1) (g := fun _ => 1) (n := n) (fun j _ => by split; omega; split <;> omega)
  rw [sumN_one_c] at h6
  simp only [show t - 1 + 1 = t by omega, h3, if_true] at h5
  omega
theorem iE.le {e : Nat} {a8 a10 a15 : Nat → Nat} (h : iE n e a8 a10 a15) : e ≤ n := by
  have h6 := sumN_le (f := fun t => if a8 (t + 1) = 0 then 0 else 1) (g := fun _ => 1) (n := n) (fun j _ => by split <;> omega)
  rw [sumN_one_c, ← h.2.2.1] at h6
  exact h6
theorem nst_2 (a b c d : Nat) : nst a b c d ≤ 2 := by
  unfold nst
  repeat' split
  all_goals omega
theorem Inv.bd (h : Inv n k w x y M) (hx : x ≤ 1) (hy : y ≤ 1) : nN M 16 0 ≤ n ∧ nN M 38 0 < 1202 ∧ nN M 40 0 ≤ 4824 ∧ nN M 53 0 ≤ 2801 := by
  have h1 := h.e.le
  have h2 := h.a.1
  obtain ⟨b1, b2, b3⟩ := h.b
  have hd : ∀ j, j < n → nN M 27 (j + 1) ≤ 5 ∧ nN M 21 (j + 1) ≤ 6 := fun j hj => by
    have d := h.d (j + 1) (by omega) (by omega)
    have s := (h.s.2 (j + 1) (by omega) (by omega)).2.2.2.2.2.2.1
    have := d.2.1
    have := d.2.2.2.1
    omega
  have s1 := sumN_cb (g := fun t => nN M 27 (t + 1)) (b := 5) (n := n) (fun j hj => (hd j hj).1)
  have s2 := sumN_cb (g := fun t => nN M 21 (t + 1) + nN M 27 (t + 1) + nst (nN M 2 (t + 1)) (nN M 8 (t + 1)) (nN M 19 (t + 1)) (nN M 24 (t + 1))) (b := 13) (n := n) (fun j hj => by
    have := hd j hj
    have := nst_2 (nN M 2 (j + 1)) (nN M 8 (j + 1)) (nN M 19 (j + 1)) (nN M 24 (j + 1))
    show nN M 21 (j + 1) + nN M 27 (j + 1) + nst _ _ _ _ ≤ 13
    omega)
  refine ⟨h1, by omega, by omega, by omega⟩
theorem iP.len {a2 a8 a19 a25 : Nat → Nat} {pl : Nat → List Nat} (h : iP n k a2 a8 a19 a25 pl) {c : Nat} (hc : c ≤ 12) : (pl c).length ≤ n := nd_len (h c hc).1 (fun u hu => ⟨((h c hc).2.2 u hu).1, ((h c hc).2.2 u hu).2.1⟩)
end INV
