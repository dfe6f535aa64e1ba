/-! THE RELATION of the class's K, F, L and the reference's M -/
section RELS
def fm (so : Nat) : Nat := if so = 0 then 0 else if so ≤ 8 then so + 4 else so - 8
def stt (so cm wh : Nat) : Nat := if cm = 0 then (if so < 9 then 0 else wh) else cm + 4
def qA (n k : Nat) (K M : MS) : Prop := nN K 0 0 = n ∧ nN K 1 0 = k ∧ nN K 2 0 = nN M 0 0 ∧ nN K 3 0 = nN M 16 0 ∧ ∀ j, j < n → nN K 5 j = j + 1
def qS (n : Nat) (K M : MS) : Prop := ∀ t, 1 ≤ t → t ≤ n → nN K 10 t = t ∧ nN K 11 t = fm (nN M 2 t) ∧ nN K 12 t = nN M 4 t ∧ (∀ j, j < nN M 4 t → nN K (1000 + t) j = nN M 3 (24 * t + j)) ∧ nN K 13 t = nN M 5 t ∧ K 14 t = (if nN M 2 t = 5 then M 7 t else if nN M 2 t = 8 then M 32 t else M 6 t) ∧ (9 ≤ nN M 2 t → nN K 23 t = nN M 18 t ∧ nN K 33 t = nN M 30 t ∧ nN K 34 t = nN M 29 t ∧ nN K 35 t = nN M 29 t)
def qD (n : Nat) (K M : MS) : Prop := ∀ t, 1 ≤ t → t ≤ n → nN K 16 t = stt (nN M 2 t) (nN M 8 t) (nN M 19 t) ∧ K 17 t = M 11 t ∧ nN K 18 t = (if nN M 8 t = 2 then nN M 12 t + 1 else 0) ∧ nN K 19 t = nN M 9 t ∧ nN K 20 t = nN M 10 t ∧ K 21 t = M 14 t ∧ nN K 22 t = srvN M t
def qW1 (K M : MS) (t : Nat) : Prop := (nN K 26 t = nN M 22 t ∧ nN K 27 t = nN M 21 t ∧ nN K 29 t = nN M 26 t ∧ nN K 30 t = nN M 25 t ∧ nN K 32 t = nN M 27 t) ∧ nN K 31 t = (if nN M 8 t = 0 ∧ (nN M 19 t = 2 ∨ nN M 19 t = 3) then nN M 25 t else 0) ∧
  (nN M 8 t = 0 → (nN M 19 t = 1 → nN K 24 t = nN M 20 t) ∧ (nN M 19 t = 2 → nN K 25 t = nN M 23 t ∧ (nN K 28 t ≠ 0 ↔ nN M 24 t = 1)) ∧ (nN M 19 t = 4 → nN K 25 t = nN M 28 (6 * t + nN M 27 t - 1))) ∧ ∀ j, j < nN M 27 t → nN K (2000 + t) j = nN M 28 (6 * t + j) ∧ nN K (3000 + t) j = nN M 31 (6 * t + j) + 1
def qW (n : Nat) (K M : MS) : Prop := ∀ t, 1 ≤ t → t ≤ n → 9 ≤ nN M 2 t → qW1 K M t
def qF (F : Nat) (K M : MS) : Prop := nN M 38 0 = F ∧ ∀ g, g < F → nN K 50 (g + 1) = nN M 33 g ∧ nN K 51 (g + 1) = nN M 34 g ∧ K 52 (g + 1) = M 35 g + nI 1 ∧ nN K 53 (g + 1) = nN M 37 g ∧ ∀ j, j < nN M 37 g → nN K (10000 + (g + 1)) j = nN M 39 (nN M 36 g + j) + 1
def qP (n k : Nat) (K M : MS) : Prop := (∀ c, 1 ≤ c → c ≤ 12 → lsL K c = plM M c ∧ nN K 60 c = c) ∧ (∀ u, u ∈ lsL K 0 ↔ (1 ≤ u ∧ u ≤ n) ∧ 9 ≤ nN M 2 u ∧ nN M 8 u = 0 ∧ nN M 19 u = 1) ∧ ∀ c, 1 ≤ c → c ≤ k → K 61 c = M 48 c ∧ K 62 c = M 49 c
def qL (K M : MS) : Prop := nN K 70 0 = nN M 44 0 ∧ ∀ j, j < nN M 44 0 → nN K 71 j = nN M 41 j ∧ nN K 72 j = nN M 42 j ∧ nN K 73 j = nN M 43 j
def qJ (K M : MS) : Prop := nN K 80 0 = nN M 53 0 ∧ (3 * nN K 80 0 ≤ nN K 81 0 ∧ 192 ≤ nN K 81 0 ∧ nN K 81 0 ≤ 24000) ∧ ∀ j, j < nN M 53 0 → nN K 82 (3 * j) = nN M 50 j ∧ nN K 82 (3 * j + 1) = nN M 51 j ∧ nN K 82 (3 * j + 2) = nN M 52 j
def qG (n : Nat) (L : KL) (M : MS) : Prop := ∀ t, 1 ≤ t → t ≤ n → nN M 8 t = 0 → (∀ v, v ≤ 10000 → M 14 t = nI v → mkB L v = true) ∧ (nN M 2 t = 8 → nN M 32 t ≤ 10000 → mkB L (nN M 32 t) = true) ∧ (9 ≤ nN M 2 t → (nN M 19 t = 2 → nN M 23 t ≤ 10000 → mkB L (nN M 23 t) = true) ∧ (nN M 19 t = 4 → nN M 28 (6 * t + nN M 27 t - 1) ≤ 10000 → mkB L (nN M 28 (6 * t + nN M 27 t - 1)) = true))
def qH (n : Nat) (L : KL) (M : MS) : Prop := ∀ t, 1 ≤ t → t ≤ n → ∀ u, u ≤ 200 → (hgB L t u = true ↔ u = t ∨ ∃ s ∈ inL M t, hgB L s u = true)
def Rel (n k F : Nat) (K : MS) (L : KL) (M : MS) : Prop := NT exK K ∧ LA K n ∧ qA n k K M ∧ qS n K M ∧ qD n K M ∧ qW n K M ∧ qF F K M ∧ qP n k K M ∧ qL K M ∧ qJ K M ∧ qG n L M ∧ qH n L M
variable {n k F : Nat} {K K' : MS} {L L' : KL} {M M' : MS} {t : Nat}
theorem Rel.nt (h : Rel n k F K L M) : NT exK K := h.1
theorem Rel.la (h : Rel n k F K L M) : LA K n := h.2.1
theorem Rel.a (h : Rel n k F K L M) : qA n k K M := h.2.2.1
theorem Rel.s (h : Rel n k F K L M) : qS n K M := h.2.2.2.1
theorem Rel.d (h : Rel n k F K L M) : qD n K M := h.2.2.2.2.1
theorem Rel.w (h : Rel n k F K L M) : qW n K M := h.2.2.2.2.2.1
theorem Rel.f (h : Rel n k F K L M) : qF F K M := h.2.2.2.2.2.2.1
theorem Rel.p (h : Rel n k F K L M) : qP n k K M := h.2.2.2.2.2.2.2.1
theorem Rel.l (h : Rel n k F K L M) : qL K M := h.2.2.2.2.2.2.2.2.1
theorem Rel.j (h : Rel n k F K L M) : qJ K M := h.2.2.2.2.2.2.2.2.2.1
theorem Rel.g (h : Rel n k F K L M) : qG n L M := h.2.2.2.2.2.2.2.2.2.2.1
theorem Rel.hh (h : Rel n k F K L M) : qH n L M := h.2.2.2.2.2.2.2.2.2.2.2
/-- which fields each part reads -/
def kA (f : Nat) : Bool := decide (f ≤ 3 ∨ f = 5)
def kS (f : Nat) : Bool := decide ((10 ≤ f ∧ f ≤ 14) ∨ f = 23 ∨ (33 ≤ f ∧ f ≤ 35) ∨ (1000 ≤ f ∧ f < 2000))
def kD (f : Nat) : Bool := decide (16 ≤ f ∧ f ≤ 22)
def kW (f : Nat) : Bool := decide ((24 ≤ f ∧ f ≤ 32) ∨ (2000 ≤ f ∧ f < 4000))
def kF (f : Nat) : Bool := decide ((50 ≤ f ∧ f ≤ 53) ∨ 10000 ≤ f)
def kP (f : Nat) : Bool := decide (60 ≤ f ∧ f ≤ 62)
def kL (f : Nat) : Bool := decide (70 ≤ f ∧ f ≤ 73)
def kJ (f : Nat) : Bool := decide (80 ≤ f ∧ f ≤ 82)
def mA (f : Nat) : Bool := decide (f = 0 ∨ f = 16)
def mS (f : Nat) : Bool := decide ((2 ≤ f ∧ f ≤ 7) ∨ f = 18 ∨ f = 29 ∨ f = 30 ∨ f = 32)
def mD (f : Nat) : Bool := decide ((1 ≤ f ∧ f ≤ 4) ∨ (8 ≤ f ∧ f ≤ 12) ∨ f = 14 ∨ f = 19)
def mW (f : Nat) : Bool := decide (f = 2 ∨ f = 8 ∨ (19 ≤ f ∧ f ≤ 28) ∨ f = 31)
def mF (f : Nat) : Bool := decide (33 ≤ f ∧ f ≤ 39)
def mP (f : Nat) : Bool := decide (f = 2 ∨ f = 8 ∨ f = 19 ∨ (46 ≤ f ∧ f ≤ 49))
def mL (f : Nat) : Bool := decide (41 ≤ f ∧ f ≤ 44)
def mJ (f : Nat) : Bool := decide (50 ≤ f ∧ f ≤ 53)
def mG (f : Nat) : Bool := decide (f = 2 ∨ f = 8 ∨ f = 14 ∨ f = 19 ∨ f = 23 ∨ f = 27 ∨ f = 28 ∨ f = 32)
theorem qA.cg (h : qA n k K M) (eK : ∀ f, kA f = true → K' f = K f) (eM : ∀ f, mA f = true → M' f = M f) : qA n k K' M' := by
  unfold qA
  rw [nN_e (eK 0 rfl), nN_e (eK 1 rfl), nN_e (eK 2 rfl), nN_e (eK 3 rfl), nN_e (eK 5 rfl), nN_e (eM 0 rfl), nN_e (eM 16 rfl)]; exact h
theorem qS.cg (h : qS n K M) (hn : n ≤ 200) (eK : ∀ f, kS f = true → K' f = K f) (eM : ∀ f, mS f = true → M' f = M f) : qS n K' M' := by
  unfold qS
  rw [nN_e (eK 10 rfl), nN_e (eK 11 rfl), nN_e (eK 12 rfl), nN_e (eK 13 rfl), eK 14 rfl, nN_e (eK 23 rfl), nN_e (eK 33 rfl), nN_e (eK 34 rfl), nN_e (eK 35 rfl), nN_e (eM 2 rfl), nN_e (eM 3 rfl), nN_e (eM 4 rfl), nN_e (eM 5 rfl), eM 6 rfl, eM 7 rfl, nN_e (eM 18 rfl), nN_e (eM 29 rfl), nN_e (eM 30 rfl), eM 32 rfl]
  intro t h1 h2
  rw [nN_e (eK (1000 + t) (decide_eq_true (by omega)))]
  exact h t h1 h2
theorem inpB_e {v : Int32} (h3 : M' 3 = M 3) (h4 : M' 4 = M 4) : inpB M' t v = inpB M t v := inpB_k t v h3 h4
theorem srvF_e (h3 : M' 3 = M 3) (h4 : M' 4 = M 4) (h8 : M' 8 = M 8) (s : Nat) : ∀ (q t a : Nat), srvF M' s q t a = srvF M s q t a
  | 0, _, _ => rfl
  | q + 1, t, a => by rw [srvF, srvF, inpB_k t _ h3 h4, h8, srvF_e h3 h4 h8 s q]
theorem srvN_e (h1 : M' 1 = M 1) (h3 : M' 3 = M 3) (h4 : M' 4 = M 4) (h8 : M' 8 = M 8) (s : Nat) : srvN M' s = srvN M s := by unfold srvN; rw [nN_e h1, srvF_e h3 h4 h8]
theorem qD.cg (h : qD n K M) (eK : ∀ f, kD f = true → K' f = K f) (eM : ∀ f, mD f = true → M' f = M f) : qD n K' M' := by
  unfold qD
  rw [nN_e (eK 16 rfl), eK 17 rfl, nN_e (eK 18 rfl), nN_e (eK 19 rfl), nN_e (eK 20 rfl), eK 21 rfl, nN_e (eK 22 rfl), nN_e (eM 2 rfl), nN_e (eM 8 rfl), nN_e (eM 19 rfl), eM 11 rfl, nN_e (eM 12 rfl), nN_e (eM 9 rfl), nN_e (eM 10 rfl), eM 14 rfl]
  intro t h1 h2
  rw [srvN_e (eM 1 rfl) (eM 3 rfl) (eM 4 rfl) (eM 8 rfl)]
  exact h t h1 h2
theorem qW1.cg (h : qW1 K M t) (ht : t ≤ 200) (eK : ∀ f, kW f = true → K' f = K f) (eM : ∀ f, mW f = true → M' f = M f) : qW1 K' M' t := by
  unfold qW1
  rw [nN_e (eK 26 rfl), nN_e (eK 27 rfl), nN_e (eK 29 rfl), nN_e (eK 30 rfl), nN_e (eK 32 rfl), nN_e (eK 31 rfl), nN_e (eK 24 rfl), nN_e (eK 25 rfl), nN_e (eK 28 rfl), nN_e (eM 22 rfl), nN_e (eM 21 rfl), nN_e (eM 26 rfl), nN_e (eM 25 rfl), nN_e (eM 27 rfl), nN_e (eM 8 rfl), nN_e (eM 19 rfl), nN_e (eM 20 rfl), nN_e (eM 23 rfl), nN_e (eM 24 rfl), nN_e (eM 28 rfl), nN_e (eM 31 rfl), nN_e (eK (2000 + t) (decide_eq_true (by omega))), nN_e (eK (3000 + t) (decide_eq_true (by omega)))]
  exact h
theorem qW.cg (h : qW n K M) (hn : n ≤ 200) (eK : ∀ f, kW f = true → K' f = K f) (eM : ∀ f, mW f = true → M' f = M f) : qW n K' M' := fun t h1 h2 h9 => (h t h1 h2 (by rw [nN_e (eM 2 rfl)] at h9; exact h9)).cg (by omega) eK eM
theorem qF.cg (h : qF F K M) (eK : ∀ f, kF f = true → K' f = K f) (eM : ∀ f, mF f = true → M' f = M f) : qF F K' M' := by
  unfold qF
  rw [nN_e (eK 50 rfl), nN_e (eK 51 rfl), eK 52 rfl, nN_e (eK 53 rfl), nN_e (eM 38 rfl), nN_e (eM 33 rfl), nN_e (eM 34 rfl), eM 35 rfl, nN_e (eM 37 rfl), nN_e (eM 39 rfl), nN_e (eM 36 rfl)]
  refine ⟨h.1, fun g hg => ?_⟩
  rw [nN_e (eK (10000 + (g + 1)) (decide_eq_true (by omega)))]
  exact h.2 g hg
theorem qP.cg (h : qP n k K M) (el : ∀ c, c ≤ 12 → lsL K' c = lsL K c) (eK : ∀ f, kP f = true → K' f = K f) (eM : ∀ f, mP f = true → M' f = M f) : qP n k K' M' := by
  unfold qP
  rw [nN_e (eK 60 rfl), eK 61 rfl, eK 62 rfl, nN_e (eM 2 rfl), nN_e (eM 8 rfl), nN_e (eM 19 rfl), eM 48 rfl, eM 49 rfl, el 0 (by decide)]
  refine ⟨fun c h1 h2 => ?_, h.2⟩
  rw [el c h2, pl_e (eM 46 rfl) (eM 47 rfl)]
  exact h.1 c h1 h2
theorem qL.cg (h : qL K M) (eK : ∀ f, kL f = true → K' f = K f) (eM : ∀ f, mL f = true → M' f = M f) : qL K' M' := by
  unfold qL
  rw [nN_e (eK 70 rfl), nN_e (eK 71 rfl), nN_e (eK 72 rfl), nN_e (eK 73 rfl), nN_e (eM 44 rfl), nN_e (eM 41 rfl), nN_e (eM 42 rfl), nN_e (eM 43 rfl)]; exact h
theorem qJ.cg (h : qJ K M) (eK : ∀ f, kJ f = true → K' f = K f) (eM : ∀ f, mJ f = true → M' f = M f) : qJ K' M' := by
  unfold qJ
  rw [nN_e (eK 80 rfl), nN_e (eK 81 rfl), nN_e (eK 82 rfl), nN_e (eM 53 rfl), nN_e (eM 50 rfl), nN_e (eM 51 rfl), nN_e (eM 52 rfl)]; exact h
theorem qG.cg (h : qG n L M) (eM : ∀ f, mG f = true → M' f = M f) : qG n L M' := by
  unfold qG
  rw [nN_e (eM 8 rfl), eM 14 rfl, nN_e (eM 2 rfl), nN_e (eM 32 rfl), nN_e (eM 19 rfl), nN_e (eM 23 rfl), nN_e (eM 27 rfl), nN_e (eM 28 rfl)]; exact h
theorem qH.cg (h : qH n L M) (e3 : M' 3 = M 3) (e4 : M' 4 = M 4) : qH n L M' := by
  intro t h1 h2 u hu
  rw [inL_e e3 e4]; exact h t h1 h2 u hu
/-- works are works -/
theorem fm_w {so : Nat} (h : so ≤ 12) : (1 ≤ fm so ∧ fm so ≤ 4) ↔ 9 ≤ so := by
  unfold fm
  split
  · omega
  · split <;> omega
theorem isW_iff {w x y : Nat} (hR : Rel n k F K L M) (hI : Inv n k w x y M) (h1 : 1 ≤ t) (h2 : t ≤ n) : isWK K t = true ↔ 9 ≤ nN M 2 t := by
  unfold isWK
  rw [decide_eq_true_iff, hR.nt.le rfl (by decide), hR.nt.ge rfl (by decide), (hR.s t h1 h2).2.1]
  exact fm_w (hI.s.2 t h1 h2).1.1
theorem Rel.jr {w x y : Nat} (hR : Rel n k F K L M) (hI : Inv n k w x y M) (hx : x ≤ 1) (hy : y ≤ 1) : jrOk K := by
  have bd := hI.bd hx hy
  have j := hR.j
  exact ⟨hR.nt 80 0 rfl, by have := j.1; omega, j.2.1.1, j.2.1.2.1, j.2.1.2.2⟩
theorem in_iff (hR : Rel n k F K L M) (h1 : 1 ≤ t) (h2 : t ≤ n) {u : Nat} : (∃ a, a < nN K 12 t ∧ iK K t a = u) ↔ u ∈ inL M t := by
  have s := hR.s t h1 h2
  rw [inL_mem, s.2.2.1]
  constructor
  · rintro ⟨a, h3, h4⟩; exact ⟨a, h3, (s.2.2.2.1 a h3).symm.trans h4⟩
  · rintro ⟨a, h3, h4⟩; exact ⟨a, h3, (s.2.2.2.1 a h3).trans h4⟩
theorem iK_iN (hR : Rel n k F K L M) (h1 : 1 ≤ t) (h2 : t ≤ n) {j : Nat} (hj : j < nN M 4 t) : iK K t j = iN M t j := (hR.s t h1 h2).2.2.2.1 j hj
/-- how many serve, as a sum -/
def srvT (M : MS) (s t : Nat) : Nat := if s ∈ inL M t ∧ nN M 8 t = 0 then 1 else 0
theorem srvF_S (hN : NT exM M) {s : Nat} (hs : s < 2 ^ 31) : ∀ (q t a : Nat), srvF M s q t a = a + sumN (fun j => srvT M s (t + j)) q
  | 0, _, _ => rfl
  | q + 1, t, a => by
    have sh : ∀ (q : Nat) (g : Nat → Nat), sumN g (q + 1) = g 0 + sumN (fun j => g (j + 1)) q := by
      intro q g
      induction q with
      | zero => rw [sumN, sumN, sumN]; omega
      | succ q ih => rw [sumN, ih, sumN]; omega
    rw [srvF, srvF_S hN hs q, sh]
    have e1 : (fun j => srvT M s (t + (j + 1))) = fun j => srvT M s (t + 1 + j) := by funext j; rw [show t + (j + 1) = t + 1 + j by omega]
    rw [e1]
    show _ = a + (srvT M s t + _)
    by_cases h : s ∈ inL M t ∧ nN M 8 t = 0
    · rw [show srvT M s t = 1 from if_pos h, if_pos ⟨(inp_iff hN hs).mpr h.1, (hN.z rfl).mpr h.2⟩]; omega
    · rw [show srvT M s t = 0 from if_neg h, if_neg (fun q => h ⟨(inp_iff hN hs).mp q.1, (hN.z rfl).mp q.2⟩)]; omega
theorem srvN_S (hN : NT exM M) {s : Nat} (hs : s < 2 ^ 31) (hn : nN M 1 0 = n) : srvN M s = sumN (fun j => srvT M s (s + 1 + j)) (n - s) := by rw [srvN, srvF_S hN hs, hn]; omega
theorem srv_pos {w x y : Nat} (hI : Inv n k w x y M) (h1 : 1 ≤ t) (h2 : t ≤ n) (ho : nN M 8 t = 0) {s : Nat} (hs : s ∈ inL M t) : 1 ≤ srvN M s := by
  have b := inL_b hI.s h1 h2 hs
  have hn := hI.a.1
  rw [srvN_S hI.nt (by omega) hI.a.2.2.2.2.1]
  have q := sumN_one (f := fun j => srvT M s (s + 1 + j)) (g := fun j => if j = t - s - 1 then 0 else srvT M s (s + 1 + j)) (i := t - s - 1) (n := n - s) (by omega) (fun j _ hj => by simp only [if_neg hj])
  simp only [if_true, show s + 1 + (t - s - 1) = t by omega] at q
  have : srvT M s t = 1 := if_pos ⟨hs, ho⟩
  omega
/-- who serves, behind an end -/
theorem srv_end {w x y h : Nat} (hI : Inv n k w x y M) (hN' : NT exM M') (e1 : M' 1 = M 1) (e3 : M' 3 = M 3) (e4 : M' 4 = M 4) (e8 : nN M' 8 = va_up (nN M 8) t h) (hh : 1 ≤ h) (h1 : 1 ≤ t) (h2 : t ≤ n) (ho : nN M 8 t = 0) {s : Nat} (hs : s ≤ n) :
    (s ∈ inL M t → srvN M' s + 1 = srvN M s) ∧ (s ∉ inL M t → srvN M' s = srvN M s) := by
  have hn := hI.a.1
  rw [srvN_S hI.nt (by omega) hI.a.2.2.2.2.1, srvN_S (n := n) hN' (by omega) (by rw [nN_e e1]; exact hI.a.2.2.2.2.1)]
  have eT : ∀ t', t' ≠ t → srvT M' s t' = srvT M s t' := fun t' ht' => by unfold srvT; rw [inL_e e3 e4, e8, vu_n ht']
  have eT2 : srvT M' s t = 0 := by unfold srvT; rw [e8, vu_s, if_neg (by omega)]
  constructor
  · intro hm
    have b := inL_b hI.s h1 h2 hm
    have q := sumN_one (f := fun j => srvT M' s (s + 1 + j)) (g := fun j => srvT M s (s + 1 + j)) (i := t - s - 1) (n := n - s) (by omega) (fun j _ hj => eT _ (by omega))
    simp only [show s + 1 + (t - s - 1) = t by omega, eT2] at q
    have : srvT M s t = 1 := if_pos ⟨hm, ho⟩
    omega
  · intro hm
    refine sumN_congr (fun j _ => ?_)
    by_cases ht' : s + 1 + j = t
    · rw [ht', eT2]; unfold srvT; rw [if_neg (fun q => hm q.1)]
    · exact eT _ ht'
end RELS
