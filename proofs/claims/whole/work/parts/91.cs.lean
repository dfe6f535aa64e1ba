/-! the class: walkTo -/
section CSW
section STD
variable {Y : YT} {G : GH} {A : AS} {n F : Nat} {K : MS} {L : KL}
/-- failure f stands in this walk -/
def stdK (K : MS) (f : Nat) (wk pl bb ti : Int32) : MS := up2 (up2 (up2 (up2 (up2 K 54 f wk) 55 f pl) 58 f bb) 56 f ti) 57 f (nI 0)
theorem std_o {f g j : Nat} {wk pl bb ti : Int32} (h : g < 54 ∨ 58 < g) : stdK K f wk pl bb ti g j = K g j := by
  unfold stdK; rw [up2_f (by omega), up2_f (by omega), up2_f (by omega), up2_f (by omega), up2_f (by omega)]
theorem std_j {f g j : Nat} {wk pl bb ti : Int32} (h : j ≠ f) : stdK K f wk pl bb ti g j = K g j := by
  unfold stdK; rw [up2_n (fun z => h z.2), up2_n (fun z => h z.2), up2_n (fun z => h z.2), up2_n (fun z => h z.2), up2_n (fun z => h z.2)]
theorem KR.f57 (h : KR Y G A n F K L) {f : Nat} (hi : 1 ≤ f ∧ f ≤ F) (v : Int32) : KR Y (va_up G (A 6 f) (some (fC (K 50 f) (K 51 f) (dec A 6 (K 52 f)) (some (A 7 f)) (K 54 f) (K 55 f) (K 56 f) v (dec A 6 (K 58 f))))) A n F (up2 K 57 f v) L := by
  have h1 := h.put1 (k := 6) (i := f) (f := 57) (j := f) hi v rfl (by decide) (by decide) (fun q => by cases q) (fun q => by cases q)
  have e : cel Y A (up2 K 57 f v) L 6 f = fC (K 50 f) (K 51 f) (dec A 6 (K 52 f)) (some (A 7 f)) (K 54 f) (K 55 f) (K 56 f) v (dec A 6 (K 58 f)) := by
    show fC (up2 K 57 f v 50 f) (up2 K 57 f v 51 f) (dec A 6 (up2 K 57 f v 52 f)) (some (A 7 f)) (up2 K 57 f v 54 f) (up2 K 57 f v 55 f) (up2 K 57 f v 56 f) (up2 K 57 f v 57 f) (dec A 6 (up2 K 57 f v 58 f)) = _
    rw [up2_s, up2_f (by decide), up2_f (by decide), up2_f (by decide), up2_f (by decide), up2_f (by decide), up2_f (by decide), up2_f (by decide)]
  rw [e] at h1; exact h1
theorem KR.std (h : KR Y G A n F K L) {f : Nat} (hi : 1 ≤ f ∧ f ≤ F) (wk pl bb ti : Int32) (hb : bb.toNatClampNeg ≤ F) : KR Y (va_up G (A 6 f) (some (fC (K 50 f) (K 51 f) (dec A 6 (K 52 f)) (some (A 7 f)) wk pl ti (nI 0) (dec A 6 bb)))) A n F (stdK K f wk pl bb ti) L := by
  have h1 := h.put1 (k := 6) (i := f) (f := 54) (j := f) hi wk rfl (by decide) (by decide) (fun q => by cases q) (fun q => by cases q)
  have h2 := h1.put1 (k := 6) (i := f) (f := 55) (j := f) hi pl rfl (by decide) (by decide) (fun q => by cases q) (fun q => by cases q)
  have h3 := h2.put1 (k := 6) (i := f) (f := 58) (j := f) hi bb rfl (by decide) (by decide) (fun q => by cases q) (fun _ => hb)
  have h4 := h3.put1 (k := 6) (i := f) (f := 56) (j := f) hi ti rfl (by decide) (by decide) (fun q => by cases q) (fun q => by cases q)
  have h5 := h4.put1 (k := 6) (i := f) (f := 57) (j := f) hi (nI 0) rfl (by decide) (by decide) (fun q => by cases q) (fun q => by cases q)
  rw [bx_uu, bx_uu, bx_uu, bx_uu] at h5
  have e : cel Y A (stdK K f wk pl bb ti) L 6 f = fC (K 50 f) (K 51 f) (dec A 6 (K 52 f)) (some (A 7 f)) wk pl ti (nI 0) (dec A 6 bb) := by
    show fC (stdK K f wk pl bb ti 50 f) (stdK K f wk pl bb ti 51 f) (dec A 6 (stdK K f wk pl bb ti 52 f)) (some (A 7 f)) (stdK K f wk pl bb ti 54 f) (stdK K f wk pl bb ti 55 f) (stdK K f wk pl bb ti 56 f) (stdK K f wk pl bb ti 57 f) (dec A 6 (stdK K f wk pl bb ti 58 f)) = _
    rw [std_o (by decide), std_o (by decide), std_o (by decide)]
    unfold stdK
    rw [up2_s, up2_f (f := 54) (by decide), up2_f (f := 54) (by decide), up2_f (f := 54) (by decide), up2_f (f := 54) (by decide), up2_s, up2_f (f := 55) (by decide), up2_f (f := 55) (by decide), up2_f (f := 55) (by decide), up2_s, up2_f (f := 56) (by decide), up2_s, up2_f (f := 58) (by decide), up2_f (f := 58) (by decide), up2_s]
  exact e ▸ h5
/-- what the walk needs of the failures -/
def FW (K : MS) (F : Nat) : Prop := ∀ f, 1 ≤ f → f ≤ F → (∃ tu, K 57 f = nI tu ∧ tu ≤ nN K 53 f + 1) ∧ nN K 53 f ≤ 100 ∧ (∃ u, u ≤ F ∧ K 52 f = nI u) ∧ (∃ u, u ≤ F ∧ K 58 f = nI u) ∧ ∀ j, j < nN K 53 f → ∃ u, u ≤ F ∧ K (10000 + f) j = nI u
theorem FW.f57 (h : FW K F) {f tu : Nat} (ht : tu ≤ nN K 53 f) : FW (up2 K 57 f (nI (tu + 1))) F := by
  intro g h1 h2
  obtain ⟨a, b, c, d, e⟩ := h g h1 h2
  refine ⟨?_, ?_, ?_, ?_, ?_⟩
  · by_cases z : g = f
    · subst z
      exact ⟨tu + 1, up2_s _ _ _ _, by rw [nN, up2_f (by decide)]; exact Nat.succ_le_succ ht⟩
    · obtain ⟨u, u1, u2⟩ := a
      exact ⟨u, (up2_n (fun w => z w.2)).trans u1, by rw [nN, up2_f (by decide)]; exact u2⟩
  · rw [nN, up2_f (by decide)]; exact b
  · rw [up2_f (by decide)]; exact c
  · rw [up2_f (by decide)]; exact d
  · intro j hj
    rw [nN, up2_f (by decide)] at hj
    rw [up2_f (by omega)]; exact e j hj
theorem FW.std (h : FW K F) {f u : Nat} {wk pl ti : Int32} (hu : u ≤ F) : FW (stdK K f wk pl (nI u) ti) F := by
  intro g h1 h2
  obtain ⟨a, b, c, d, e⟩ := h g h1 h2
  have e3 : nN (stdK K f wk pl (nI u) ti) 53 g = nN K 53 g := by rw [nN, std_o (by decide)]; rfl
  rw [e3]
  refine ⟨?_, b, ?_, ?_, ?_⟩
  · by_cases z : g = f
    · subst z
      exact ⟨0, by unfold stdK; rw [up2_s], Nat.zero_le _⟩
    · rw [std_j z]; exact a
  · rw [std_o (by decide)]; exact c
  · by_cases z : g = f
    · subst z
      exact ⟨u, hu, by unfold stdK; rw [up2_f (by decide), up2_f (by decide), up2_s]⟩
    · rw [std_j z]; exact d
  · intro j hj
    rw [std_o (by omega)]; exact e j hj
end STD
def wtP (K : MS) (hr : Nat) : Nat := if K 57 hr = 0 then nN K 52 hr else nN K (10000 + hr) (nN K 57 hr - 1)
def wtT (K : MS) (hr : Nat) : Int32 := if K 57 hr = 0 then nI 1 else nI 2
def wtF (i : Int32) : Nat → MS → Int32 → Nat → Nat → MS × Nat
  | 0, K, _, nw, _ => (K, nw)
  | q + 1, K, st, nw, hr =>
    if hr = 0 ∨ K 55 nw = i then (K, nw)
    else if ¬ K 57 hr ≤ nI (nN K 53 hr) then wtF i q K st nw (nN K 58 hr)
    else if wtP K hr = 0 ∨ K 54 (wtP K hr) = K 4 0 then wtF i q (up2 K 57 hr (nI (nN K 57 hr + 1))) st nw hr
    else wtF i q (stdK (up2 K 57 hr (nI (nN K 57 hr + 1))) (wtP K hr) (K 4 0) st (nI hr) (wtT K hr)) (st + nI 1) (wtP K hr) (wtP K hr)
end CSW
