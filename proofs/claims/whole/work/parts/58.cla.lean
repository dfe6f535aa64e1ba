/-! the class: puts; find, countOf, earliest -/
section CLA
section PUTS
variable {Y : YT} {G : GH} {A : AS} {n F : Nat} {K : MS} {L : KL}
theorem KR.sg (h : KR Y G A n F K L) {i : Nat} (hi : 1 ≤ i ∧ i ≤ n) (hw : isWK K i = false) : G (A 1 i) = some (stC false (sgK K i) (rhK A K i)) := by rw [h.st hi, hw]
theorem KR.pW (h : KR Y G A n F K L) {i : Nat} (hi : 1 ≤ i ∧ i ≤ n) (hw : isWK K i = true) (j : Nat) (v : Int32) (hj : isP j = true) : KR Y (va_up G (A 1 i) (some (stC true (upd (sgK K i) j v) (rhK A K i)))) A n F (up2 K (10 + j) i v) L := by
  have := h.pS hi j v hj
  rw [hw] at this
  exact this
theorem KR.m0 (h : KR Y G A n F K L) (v : Int32) : KR Y (va_up G (A 0 0) (some (.inr (8, mnL A (up2 K 0 0 v))))) A n F (up2 K 0 0 v) L := h.put1 (k := 0) (i := 0) (f := 0) (j := 0) ⟨by decide, rfl⟩ v rfl (by decide) (by decide) (fun q => by cases q) (fun q => by cases q)
theorem KR.m1 (h : KR Y G A n F K L) (v : Int32) : KR Y (va_up G (A 0 0) (some (.inr (8, mnL A (up2 K 1 0 v))))) A n F (up2 K 1 0 v) L := h.put1 (k := 0) (i := 0) (f := 1) (j := 0) ⟨by decide, rfl⟩ v rfl (by decide) (by decide) (fun q => by cases q) (fun q => by cases q)
theorem KR.m2 (h : KR Y G A n F K L) (v : Int32) : KR Y (va_up G (A 0 0) (some (.inr (8, mnL A (up2 K 2 0 v))))) A n F (up2 K 2 0 v) L := h.put1 (k := 0) (i := 0) (f := 2) (j := 0) ⟨by decide, rfl⟩ v rfl (by decide) (by decide) (fun q => by cases q) (fun q => by cases q)
theorem KR.m3 (h : KR Y G A n F K L) (v : Int32) : KR Y (va_up G (A 0 0) (some (.inr (8, mnL A (up2 K 3 0 v))))) A n F (up2 K 3 0 v) L := h.put1 (k := 0) (i := 0) (f := 3) (j := 0) ⟨by decide, rfl⟩ v rfl (by decide) (by decide) (fun q => by cases q) (fun q => by cases q)
theorem KR.m4 (h : KR Y G A n F K L) (v : Int32) : KR Y (va_up G (A 0 0) (some (.inr (8, mnL A (up2 K 4 0 v))))) A n F (up2 K 4 0 v) L := h.put1 (k := 0) (i := 0) (f := 4) (j := 0) ⟨by decide, rfl⟩ v rfl (by decide) (by decide) (fun q => by cases q) (fun q => by cases q)
theorem KR.c61 (h : KR Y G A n F K L) {i : Nat} (hi : 1 ≤ i ∧ i ≤ 12) (v : Int32) : KR Y (va_up G (A 8 i) (some (.inr (2, [.inl (K 60 i), .inr (.inr (some (A 9 i))), .inl v, .inl (K 62 i)])))) A n F (up2 K 61 i v) L := by
  have h1 := h.put1 (k := 8) (i := i) (f := 61) (j := i) hi v rfl (by decide) (by decide) (fun q => by cases q) (fun q => by cases q)
  have e : cel Y A (up2 K 61 i v) L 8 i = .inr (2, [.inl (K 60 i), .inr (.inr (some (A 9 i))), .inl v, .inl (K 62 i)]) := by
    show (Sum.inr (2, [.inl (up2 K 61 i v 60 i), .inr (.inr (some (A 9 i))), .inl (up2 K 61 i v 61 i), .inl (up2 K 61 i v 62 i)]) : AC) = _
    rw [up2_s, up2_f (by decide), up2_f (by decide)]
  rw [e] at h1; exact h1
theorem KR.c62 (h : KR Y G A n F K L) {i : Nat} (hi : 1 ≤ i ∧ i ≤ 12) (v : Int32) : KR Y (va_up G (A 8 i) (some (.inr (2, [.inl (K 60 i), .inr (.inr (some (A 9 i))), .inl (K 61 i), .inl v])))) A n F (up2 K 62 i v) L := by
  have h1 := h.put1 (k := 8) (i := i) (f := 62) (j := i) hi v rfl (by decide) (by decide) (fun q => by cases q) (fun q => by cases q)
  have e : cel Y A (up2 K 62 i v) L 8 i = .inr (2, [.inl (K 60 i), .inr (.inr (some (A 9 i))), .inl (K 61 i), .inl v]) := by
    show (Sum.inr (2, [.inl (up2 K 62 i v 60 i), .inr (.inr (some (A 9 i))), .inl (up2 K 62 i v 61 i), .inl (up2 K 62 i v 62 i)]) : AC) = _
    rw [up2_s, up2_f (by decide), up2_f (by decide)]
  rw [e] at h1; exact h1
theorem KR.l70 (h : KR Y G A n F K L) (v : Int32) : KR Y (va_up G (A 11 0) (some (.inr (5, [.inr (.inr (some (A 12 0))), .inr (.inr (some (A 13 0))), .inr (.inr (some (A 14 0))), .inl (up2 K 70 0 v 70 0)])))) A n F (up2 K 70 0 v) L := h.put1 (k := 11) (i := 0) (f := 70) (j := 0) ⟨by decide, rfl⟩ v rfl (by decide) (by decide) (fun q => by cases q) (fun q => by cases q)
theorem sgK_up (j i : Nat) (v : Int32) : sgK (up2 K (10 + j) i v) i = upd (sgK K i) j v := by
  funext q
  show up2 K (10 + j) i v (10 + q) i = upd (sgK K i) j v q
  by_cases e : q = j
  · subst e; rw [up2_s]; simp [upd]
  · rw [up2_f (by omega)]; simp [upd, e, sgK]
/-- stage i changes: K' differs from K in its own cell alone -/
theorem KR.putS (h : KR Y G A n F K L) {i : Nat} (hi : 1 ≤ i ∧ i ≤ n) (K' : MS) {σ : Nat → Int32} {ρ : Nat → Option Nat} (hK : ∀ f j, own f j ≠ (1, i) → K' f j = K f j) (h11 : K' 11 i = K 11 i) (h18 : nN K' 18 i ≤ F) (hσ : ∀ j, j ≠ 2 → j ≠ 5 → j ≠ 8 → j ≠ 21 → j ≠ 24 → j ≠ 25 → j < 26 → σ j = K' (10 + j) i) (h8 : ρ 8 = dec A 6 (K' 18 i)) (h21 : ρ 21 = dec A 8 (K' 31 i)) (h2 : ρ 2 = some (A 2 i)) (h5 : ρ 5 = some (A 3 i)) (h24 : ρ 24 = some (A 4 i)) (h25 : ρ 25 = some (A 5 i)) : KR Y (va_up G (A 1 i) (some (stC (isWK K i) σ ρ))) A n F K' L := by
  have e11 : ∀ j, K' 11 j = K 11 j := fun j => by
    by_cases e : j = i
    · rw [e]; exact h11
    · exact hK 11 j (fun q => e (by cases q; rfl))
  have e65 : ∀ j, K' 65 j = K 65 j := fun j => hK 65 j (fun q => by cases q)
  have hr : RB n F K' := by
    refine ⟨fun f j hs hl => ?_, fun f j hs hl => ?_⟩
    · rw [liv_eq e11 e65] at hl
      rw [nN, hK f j (fun q => by rcases own_sr (j := j) hs with o | ⟨u, -, -, o⟩ | ⟨u, -, o⟩ <;> (rw [o] at q; cases q))]
      exact h.2.2.2.2.1 f j hs hl
    · rw [liv_eq e11 e65] at hl
      by_cases q : own f j = (1, i)
      · have hs2 := of_decide_eq_true hs
        have : f = 18 ∧ j = i := by
          rcases hs2 with rfl | rfl | rfl | z | z
          · exact ⟨rfl, by cases q; rfl⟩
          · cases q
          · cases q
          · rcases own_fr (j := j) hs with o | o | ⟨u, -, -, o⟩ | ⟨u, -, o⟩
            · obtain ⟨u, rfl⟩ : ∃ u, f = 3000 + u := ⟨f - 3000, by omega⟩
              rw [own_5 j (by omega)] at o; cases o
            · rw [o] at q; cases q
            · rw [o] at q; cases q
            · rw [o] at q; cases q
          · obtain ⟨u, rfl⟩ : ∃ u, f = 10000 + u := ⟨f - 10000, by omega⟩
            rw [own_7 j] at q; cases q
        rw [this.1, this.2]; exact h18
      · rw [nN, hK f j q]; exact h.2.2.2.2.2 f j hs hl
  have h1 := h.put (k := 1) (i := i) hi K' hK e11 e65 hr
  have e : cel Y A K' L 1 i = stC (isWK K i) σ ρ := by
    show stC (isWK K' i) (sgK K' i) (rhK A K' i) = _
    have e1 : isWK K' i = isWK K i := by unfold isWK; rw [h11]
    rw [e1]
    refine sg_congr (fun j a b c d e' f' g => (hσ j a b c d e' f' g).symm) (fun j hj => ?_)
    rcases hj with rfl | rfl | rfl | rfl | rfl | rfl
    · exact h2.symm
    · exact h5.symm
    · exact h8.symm
    · exact h21.symm
    · exact h24.symm
    · exact h25.symm
  rw [e] at h1
  exact h1
/-- stage i gains x, fails with failure f, is dismissed, ends as stage u -/
def gainK (K : MS) (i : Nat) (x : Int32) : MS := up2 (up2 K 16 i (nI 5)) 17 i x
def failK (K : MS) (i : Nat) (f : Int32) : MS := up2 (up2 K 16 i (nI 6)) 18 i f
def offK (K : MS) (i : Nat) : MS := up2 K 16 i (nI 7)
def asK (K : MS) (i u : Nat) : MS := up2 (up2 (up2 K 16 i (K 16 u)) 17 i (K 17 u)) 18 i (K 18 u)
theorem KR.gain (h : KR Y G A n F K L) {i : Nat} (hi : 1 ≤ i ∧ i ≤ n) (x : Int32) : KR Y (va_up G (A 1 i) (some (stC (isWK K i) (upd (upd (sgK K i) 6 (nI 5)) 7 x) (rhK A K i)))) A n F (gainK K i x) L := by
  have h1 := h.pS hi 6 (nI 5) rfl
  have h2 := h1.pS hi 7 x rfl
  rw [bx_uu, sgK_up] at h2
  exact h2
theorem KR.off (h : KR Y G A n F K L) {i : Nat} (hi : 1 ≤ i ∧ i ≤ n) : KR Y (va_up G (A 1 i) (some (stC (isWK K i) (upd (sgK K i) 6 (nI 7)) (rhK A K i)))) A n F (offK K i) L := h.pS hi 6 (nI 7) rfl
theorem ne18 {f j i : Nat} (h : own f j ≠ (1, i)) : ¬ (f = 18 ∧ j = i) := fun e => h (by rw [e.1, e.2]; rfl)
theorem ne16 {f j i : Nat} (h : own f j ≠ (1, i)) : ¬ (f = 16 ∧ j = i) := fun e => h (by rw [e.1, e.2]; rfl)
theorem ne17 {f j i : Nat} (h : own f j ≠ (1, i)) : ¬ (f = 17 ∧ j = i) := fun e => h (by rw [e.1, e.2]; rfl)
theorem KR.fail (h : KR Y G A n F K L) {i : Nat} (hi : 1 ≤ i ∧ i ≤ n) (f : Int32) (hf : f.toNatClampNeg ≤ F) : KR Y (va_up G (A 1 i) (some (stC (isWK K i) (upd (sgK K i) 6 (nI 6)) (va_up (rhK A K i) 8 (dec A 6 f))))) A n F (failK K i f) L := by
  refine h.putS hi (failK K i f) (fun f' j q => by unfold failK; rw [up2_n (ne18 q), up2_n (ne16 q)]) (by unfold failK; rw [up2_f (by decide), up2_f (by decide)]) (by unfold failK; rw [nN, up2_s]; exact hf) (fun j _ _ j8 _ _ _ _ => ?_) ?_ ?_ rfl rfl rfl rfl
  · show upd (sgK K i) 6 (nI 6) j = up2 (up2 K 16 i (nI 6)) 18 i f (10 + j) i
    rw [up2_f (by omega), ← sgK_up]; rfl
  · unfold failK; rw [up_eq, up2_s]
  · unfold failK; rw [up2_f (by decide), up2_f (by decide)]; rfl
theorem KR.endAs (h : KR Y G A n F K L) {i u : Nat} (hi : 1 ≤ i ∧ i ≤ n) (hu : 1 ≤ u ∧ u ≤ n) : KR Y (va_up G (A 1 i) (some (stC (isWK K i) (upd (upd (sgK K i) 6 (sgK K u 6)) 7 (sgK K u 7)) (va_up (rhK A K i) 8 (rhK A K u 8))))) A n F (asK K i u) L := by
  refine h.putS hi (asK K i u) (fun f' j q => by unfold asK; rw [up2_n (ne18 q), up2_n (ne17 q), up2_n (ne16 q)]) (by unfold asK; rw [up2_f (by decide), up2_f (by decide), up2_f (by decide)]) (by unfold asK; rw [nN, up2_s]; exact h.2.2.2.2.2 18 u (by decide) hu) (fun j _ _ j8 _ _ _ _ => ?_) ?_ ?_ rfl rfl rfl rfl
  · show _ = up2 (up2 (up2 K 16 i (K 16 u)) 17 i (K 17 u)) 18 i (K 18 u) (10 + j) i
    rw [up2_f (by omega), show sgK K u 6 = K 16 u from rfl, show sgK K u 7 = K 17 u from rfl, ← sgK_up, ← sgK_up]; rfl
  · unfold asK; rw [up_eq, up2_s]; rfl
  · unfold asK; rw [up2_f (by decide), up2_f (by decide), up2_f (by decide)]; rfl
end PUTS
variable {l : Launch} {Y : YT}
theorem wi_0 {P : Prop} [Decidable P] (h : (if P then nI 1 else nI 0) = 0) : ¬ P := fun q => by rw [if_pos q] at h; exact absurd h (by decide +kernel)
theorem wi_1 {P : Prop} [Decidable P] (h : ¬ (if P then nI 1 else nI 0) = 0) : P := Classical.byContradiction (fun q => h (by rw [if_neg q]; exact nI_0))
/-- the kitchen: m stages are made -/
def mdK (K : MS) (n m : Nat) : Prop := K 0 0 = nI m ∧ m ≤ n ∧ m ≤ 200 ∧ ∀ j, j < m → K 5 j = nI (j + 1)
theorem k_find (d : Nat) (G : GH) (A : AS) (n F : Nat) (K : MS) (L : KL) (v : Int32) (m0 : Nat) (hR : KR Y G A n F K L) (hm : mdK K n m0) : Cd l yX8_find cX8_find 2 (some (.object "PromiseKitchen$Stage")) (d + 1) 0 0 Y [.inr (.inr (some (A 0 0))), .inl v] G (fun r G' => G' = G ∧ r = some (.inr (.inr (if nI 1 ≤ v ∧ v ≤ K 0 0 then some (A 1 v.toNatClampNeg) else none)))) := by
  refine Ct.of (ini := False) (by decide +kernel) False.elim rfl (Nat.le_of_ble_eq_true rfl) ?_
  intro p e s m args below meth c C X
  obtain ⟨hm1, hm2, hm3, hm4⟩ := hm
  refine b_X8_find_0.go C ⟨_, hR.mn, trivial, ?_⟩
  refine k_X8_find_6.go C X (c_isWithin d G v (nI 1) (K 0 0)) (rest := []) rfl rfl rfl (fun h => absurd rfl h) (lb rfl) (Rq.of (by omega) (by decide) (Nat.le_refl _) (Nat.le_refl _)) ?_
  rintro r G9 ⟨h9, rfl⟩
  replace h9 := h9.symm
  subst h9
  refine b_X8_find_9.go C ⟨fun h9 => ⟨trivial, ?_⟩, fun h9 => ⟨trivial, ?_⟩⟩
  · have h1 := wi_0 h9
    refine b_X8_find_23.go C ⟨trivial, ?_⟩
    rw [if_neg h1] 
    exact V_aret C X (Or.inl ⟨_, rfl⟩) d_X8_find_24 (Nat.zero_le _) (Nat.zero_le _) ⟨rfl, rfl⟩
  have h1 := wi_1 h9
  rw [if_pos h1]
  obtain ⟨j, hj1, hj2, rfl⟩ := in_of (a := 1) (b := m0) (by omega) (hm1 ▸ h1) (by omega)
  obtain ⟨j, rfl⟩ : ∃ q, j = q + 1 := ⟨j - 1, by omega⟩
  refine b_X8_find_12.go C ⟨_, hR.mn, _, pk_sub (by omega), _, _, hR.md, j, rfl, by show j < 200; omega, lb rfl, _, dec_n (hm4 j (by omega)) (by omega) (by omega), trivial, ?_⟩
  exact V_aret C X (Or.inl ⟨_, rfl⟩) d_X8_find_24 (Nat.zero_le _) (Nat.zero_le _) ⟨rfl, by rw [nI_clamp (by omega)]⟩
/-- the j-th input of stage i -/
def iK (K : MS) (i j : Nat) : Nat := nN K (1000 + i) j
def inK (K : MS) (n i : Nat) : Prop := K 12 i = nI (nN K 12 i) ∧ nN K 12 i ≤ 24 ∧ ∀ j, j < nN K 12 i → K (1000 + i) j = nI (iK K i j) ∧ 1 ≤ iK K i j ∧ iK K i j ≤ n
/-- how many of its inputs are in the state v -/
def cntF (K : MS) (i : Nat) (v : Int32) : Nat → Nat → Nat → Nat
  | 0, _, a => a
  | q + 1, j, a => cntF K i v q (j + 1) (if K 16 (iK K i j) = v then a + 1 else a)
def cntK (K : MS) (i : Nat) (v : Int32) : Nat := cntF K i v (nN K 12 i) 0 0
theorem k_countOf (d : Nat) (G : GH) (A : AS) (n F : Nat) (K : MS) (L : KL) (i0 : Nat) (v : Int32) (hR : KR Y G A n F K L) (hi : 1 ≤ i0 ∧ i0 ≤ n) (hin : inK K n i0) : Cd l yX5_countOf cX5_countOf 7 (some .int) d 0 0 Y [.inr (.inr (some (A 1 i0))), .inl v] G (fun r G' => G' = G ∧ r = some (.inl (nI (cntK K i0 v)))) := by
  refine Ct.of (ini := False) (by decide +kernel) False.elim rfl (Nat.le_of_ble_eq_true rfl) ?_
  intro p e s m args below meth c C X
  obtain ⟨hi1, hi2, hi3⟩ := hin
  have hn := hR.2.2.1
  refine b_X5_countOf_0.go C ⟨_, _, hR.st (by omega), stC_ci _, nN K 12 i0, Or.inl ⟨5, _, by decide, hR.inp (by omega)⟩, trivial, ?_⟩
  refine (show ∀ (q j a : Nat) (o : Option AV), j + q = nN K 12 i0 → cntK K i0 v = cntF K i0 v q j a → V p l e (RM d 0 0) s m args below meth c Y (GA G s.heap.size) (QM below args s (RM d 0 0) Y G (fun r G' => G' = G ∧ r = some (.inl (nI (cntK K i0 v))))) 14 G 0 0 [some (.inr (.inr (some (A 1 i0)))), some (.inl v), some (.inl (nI a)), some (.inr (.inr (some (A 2 i0)))), some (.inl (nI (nN K 12 i0))), some (.inl (nI j)), o] [] from ?_) (nN K 12 i0) 0 0 none (by omega) rfl
  intro q
  induction q with
  | zero =>
    intro j a o hj hs
    refine b_X5_countOf_14.go C ⟨fun h14 => ⟨trivial, ?_⟩, fun h => absurd (nI_le (by omega) (by omega)) h⟩
    refine b_X5_countOf_45.go C ⟨trivial, ?_⟩
    exact V_iret C X d_X5_countOf_46 (Nat.zero_le _) (Nat.zero_le _) ⟨rfl, by rw [hs, cntF]⟩
  | succ q ih =>
    intro j a o hj hs
    obtain ⟨e1, e2, e3⟩ := hi3 j (by omega)
    refine b_X5_countOf_14.go C ⟨fun h => absurd (show nN K 12 i0 ≤ j from (nI_leI (by omega) (by omega)).mp h) (by omega), fun h14 => ⟨trivial, ?_⟩⟩
    refine b_X5_countOf_21.go C ⟨_, _, hR.inp (by omega), j, rfl, by show j < nN K 12 i0; omega, by omega, _, dec_n (e1) (by omega) (by omega), _, _, hR.st (by omega), stC_ci _, fun h21 => ⟨trivial, ?_⟩, fun h21 => ⟨trivial, ?_⟩⟩
    · have h21 : ¬ K 16 (iK K i0 j) = v := h21
      refine b_X5_countOf_39.go C ⟨_, nI_1 _, trivial, ?_⟩
      exact ih (j + 1) a _ (by omega) (by rw [hs, cntF, if_neg h21])
    · have h21 : K 16 (iK K i0 j) = v := h21
      refine b_X5_countOf_36.go C ⟨_, nI_1 _, trivial, ?_⟩
      refine b_X5_countOf_39.go C ⟨_, nI_1 _, trivial, ?_⟩
      exact ih (j + 1) (a + 1) _ (by omega) (by rw [hs, cntF, if_pos h21])
/-- a stage's number, or 0 -/
def opS (A : AS) (e : Nat) : Option Nat := if e = 0 then none else some (A 1 e)
theorem opS_0 {A : AS} {e : Nat} (h : opS A e = none) : e = 0 := Classical.byContradiction (fun q => by rw [opS, if_neg q] at h; cases h)
theorem opS_1 {A : AS} {e a : Nat} (h : opS A e = some a) : e ≠ 0 := fun q => by rw [opS, if_pos q] at h; cases h
theorem opS_s {A : AS} {e : Nat} (h : e ≠ 0) : opS A e = some (A 1 e) := if_neg h
/-- of the inputs in the state v or above the one with the lowest place -/
def erlF (K : MS) (i : Nat) (v : Int32) : Nat → Nat → Nat → Nat
  | 0, _, e => e
  | q + 1, j, e => erlF K i v q (j + 1) (if v ≤ K 16 (iK K i j) ∧ (e = 0 ∨ K 20 (iK K i j) < K 20 e) then iK K i j else e)
def erlK (K : MS) (i : Nat) (v : Int32) : Nat := erlF K i v (nN K 12 i) 0 0
set_option maxHeartbeats 1000000 in
theorem k_earliest (d : Nat) (G : GH) (A : AS) (n F : Nat) (K : MS) (L : KL) (i0 : Nat) (v : Int32) (hR : KR Y G A n F K L) (hi : 1 ≤ i0 ∧ i0 ≤ n) (hin : inK K n i0) : Cd l yX5_earliest cX5_earliest 7 (some (.object "PromiseKitchen$Stage")) d 0 0 Y [.inr (.inr (some (A 1 i0))), .inl v] G (fun r G' => G' = G ∧ r = some (.inr (.inr (opS A (erlK K i0 v)))) ∧ erlK K i0 v ≤ n) := by
  refine Ct.of (ini := False) (by decide +kernel) False.elim rfl (Nat.le_of_ble_eq_true rfl) ?_
  intro p e s m args below meth c C X
  obtain ⟨hi1, hi2, hi3⟩ := hin
  have hn := hR.2.2.1
  refine b_X5_earliest_0.go C ⟨_, _, hR.st (by omega), stC_ci _, nN K 12 i0, Or.inl ⟨5, _, by decide, hR.inp (by omega)⟩, trivial, ?_⟩
  refine (show ∀ (q j a : Nat) (o : Option AV), j + q = nN K 12 i0 → a ≤ n → erlK K i0 v = erlF K i0 v q j a → V p l e (RM d 0 0) s m args below meth c Y (GA G s.heap.size) (QM below args s (RM d 0 0) Y G (fun r G' => G' = G ∧ r = some (.inr (.inr (opS A (erlK K i0 v)))) ∧ erlK K i0 v ≤ n)) 14 G 0 0 [some (.inr (.inr (some (A 1 i0)))), some (.inl v), some (.inr (.inr (opS A a))), some (.inr (.inr (some (A 2 i0)))), some (.inl (nI (nN K 12 i0))), some (.inl (nI j)), o] [] from ?_) (nN K 12 i0) 0 0 none (by omega) (by omega) rfl
  intro q
  induction q with
  | zero =>
    intro j a o hj ha hs
    refine b_X5_earliest_14.go C ⟨fun h14 => ⟨trivial, ?_⟩, fun h => absurd (nI_le (by omega) (by omega)) h⟩
    refine b_X5_earliest_61.go C ⟨trivial, ?_⟩
    exact V_aret C X (Or.inl ⟨_, rfl⟩) d_X5_earliest_62 (Nat.zero_le _) (Nat.zero_le _) ⟨rfl, by rw [hs, erlF], by rw [hs, erlF]; exact ha⟩
  | succ q ih =>
    intro j a o hj ha hs
    obtain ⟨e1, e2, e3⟩ := hi3 j (by omega)
    refine b_X5_earliest_14.go C ⟨fun h => absurd (show nN K 12 i0 ≤ j from (nI_leI (by omega) (by omega)).mp h) (by omega), fun h14 => ⟨trivial, ?_⟩⟩
    have keep : ¬ (v ≤ K 16 (iK K i0 j) ∧ (a = 0 ∨ K 20 (iK K i0 j) < K 20 a)) → V p l e (RM d 0 0) s m args below meth c Y (GA G s.heap.size) (QM below args s (RM d 0 0) Y G (fun r G' => G' = G ∧ r = some (.inr (.inr (opS A (erlK K i0 v)))) ∧ erlK K i0 v ≤ n)) 55 G 0 0 [some (.inr (.inr (some (A 1 i0)))), some (.inl v), some (.inr (.inr (opS A a))), some (.inr (.inr (some (A 2 i0)))), some (.inl (nI (nN K 12 i0))), some (.inl (nI j)), some (.inr (.inr (some (A 1 (iK K i0 j)))))] [] := by
      intro hk
      refine b_X5_earliest_55.go C ⟨_, nI_1 _, trivial, ?_⟩
      exact ih (j + 1) a _ (by omega) ha (by rw [hs, erlF, if_neg hk])
    have take : (v ≤ K 16 (iK K i0 j) ∧ (a = 0 ∨ K 20 (iK K i0 j) < K 20 a)) → V p l e (RM d 0 0) s m args below meth c Y (GA G s.heap.size) (QM below args s (RM d 0 0) Y G (fun r G' => G' = G ∧ r = some (.inr (.inr (opS A (erlK K i0 v)))) ∧ erlK K i0 v ≤ n)) 52 G 0 0 [some (.inr (.inr (some (A 1 i0)))), some (.inl v), some (.inr (.inr (opS A a))), some (.inr (.inr (some (A 2 i0)))), some (.inl (nI (nN K 12 i0))), some (.inl (nI j)), some (.inr (.inr (some (A 1 (iK K i0 j)))))] [] := by
      intro hk
      refine b_X5_earliest_52.go C ⟨trivial, ?_⟩
      rw [← opS_s (A := A) (show iK K i0 j ≠ 0 by omega)]
      refine b_X5_earliest_55.go C ⟨_, nI_1 _, trivial, ?_⟩
      exact ih (j + 1) (iK K i0 j) _ (by omega) e3 (by rw [hs, erlF, if_pos hk])
    refine b_X5_earliest_21.go C ⟨_, _, hR.inp (by omega), j, rfl, by show j < nN K 12 i0; omega, by omega, _, dec_n (e1) (by omega) (by omega), _, _, hR.st (by omega), stC_ci _, fun h21 => ⟨trivial, ?_⟩, fun h21 => ⟨trivial, ?_⟩⟩
    · exact keep (fun z => absurd z.1 (Int32.not_le.mpr h21))
    have h21 := Int32.not_lt.mp h21
    refine b_X5_earliest_36.go C ⟨(fun h36 => ⟨trivial, ?_⟩), (fun a36 h36 => ⟨trivial, ?_⟩)⟩
    · exact take ⟨h21, Or.inl (opS_0 h36)⟩
    have ha0 := opS_1 h36
    have hgo : V p l e (RM d 0 0) s m args below meth c Y (GA G s.heap.size) (QM below args s (RM d 0 0) Y G (fun r G' => G' = G ∧ r = some (.inr (.inr (opS A (erlK K i0 v)))) ∧ erlK K i0 v ≤ n)) 40 G 0 0 [some (.inr (.inr (some (A 1 i0)))), some (.inl v), some (.inr (.inr (some (A 1 a)))), some (.inr (.inr (some (A 2 i0)))), some (.inl (nI (nN K 12 i0))), some (.inl (nI j)), some (.inr (.inr (some (A 1 (iK K i0 j)))))] [] := by
      rw [opS_s ha0] at keep take
      refine b_X5_earliest_40.go C ⟨_, _, hR.st (by omega), stC_ci _, _, _, hR.st (by omega), stC_ci _, fun h40 => ⟨trivial, ?_⟩, fun h40 => ⟨trivial, ?_⟩⟩
      · exact keep (fun z => z.2.elim (fun q => ha0 q) (fun q => absurd q (Int32.not_lt.mpr h40)))
      · exact take ⟨h21, Or.inr (Int32.not_le.mp h40)⟩
    rw [← opS_s ha0] at hgo
    exact hgo
end CLA
