/-! the class's heap: what its cells hold; its lists -/
section KRL
variable {Y : YT} {G : GH} {A : AS} {n F : Nat} {K : MS} {L : KL}
theorem KR.mn (h : KR Y G A n F K L) : G (A 0 0) = some (.inr (8, mnL A K)) := h.1 0 0 ⟨by decide, rfl⟩
theorem KR.inp (h : KR Y G A n F K L) {i : Nat} (hi : 1 ≤ i ∧ i ≤ n) : G (A 2 i) = some (oar 5 (nN K 12 i) (fun j => dec A 1 (K (1000 + i) j))) := h.1 2 i hi
theorem KR.hg (h : KR Y G A n F K L) {i : Nat} (hi : 1 ≤ i ∧ i ≤ n) : G (A 3 i) = some (.inl (1, 4, .inr (.inl (L (1 + i))))) := h.1 3 i hi
theorem KR.pe (h : KR Y G A n F K L) {i : Nat} (hi : 1 ≤ i ∧ i ≤ n) (hw : isWK K i = true) : G (A 4 i) = some (.inl (0, nN K 34 i, .inl (K (2000 + i)))) := h.1 4 i ⟨hi, hw⟩
theorem KR.er (h : KR Y G A n F K L) {i : Nat} (hi : 1 ≤ i ∧ i ≤ n) (hw : isWK K i = true) : G (A 5 i) = some (oar 4 (nN K 35 i) (fun j => dec A 6 (K (3000 + i) j))) := h.1 5 i ⟨hi, hw⟩
theorem KR.fl (h : KR Y G A n F K L) {i : Nat} (hi : 1 ≤ i ∧ i ≤ F) : G (A 6 i) = some (fC (K 50 i) (K 51 i) (dec A 6 (K 52 i)) (some (A 7 i)) (K 54 i) (K 55 i) (K 56 i) (K 57 i) (dec A 6 (K 58 i))) := h.1 6 i hi
theorem KR.su (h : KR Y G A n F K L) {i : Nat} (hi : 1 ≤ i ∧ i ≤ F) : G (A 7 i) = some (oar 4 (nN K 53 i) (fun j => dec A 6 (K (10000 + i) j))) := h.1 7 i hi
theorem KR.ck (h : KR Y G A n F K L) {i : Nat} (hi : 1 ≤ i ∧ i ≤ 12) : G (A 8 i) = some (.inr (2, [.inl (K 60 i), .inr (.inr (some (A 9 i))), .inl (K 61 i), .inl (K 62 i)])) := h.1 8 i hi
theorem KR.pl (h : KR Y G A n F K L) : G (A 11 0) = some (.inr (5, [.inr (.inr (some (A 12 0))), .inr (.inr (some (A 13 0))), .inr (.inr (some (A 14 0))), .inl (K 70 0)])) := h.1 11 0 ⟨by decide, rfl⟩
theorem KR.plw (h : KR Y G A n F K L) : G (A 12 0) = some (.inl (0, 64, .inl (K 71))) := h.1 12 0 ⟨by decide, rfl⟩
theorem KR.plt (h : KR Y G A n F K L) : G (A 13 0) = some (.inl (0, 64, .inl (K 72))) := h.1 13 0 ⟨by decide, rfl⟩
theorem KR.plk (h : KR Y G A n F K L) : G (A 14 0) = some (.inl (0, 64, .inl (K 73))) := h.1 14 0 ⟨by decide, rfl⟩
theorem KR.ag (h : KR Y G A n F K L) : G (A 15 0) = some (.inr (1, [.inr (.inr (some (A 16 0)))])) := h.1 15 0 ⟨by decide, rfl⟩
theorem KR.am (h : KR Y G A n F K L) : G (A 16 0) = some (.inl (1, 157, .inr (.inl (L 0)))) := h.1 16 0 ⟨by decide, rfl⟩
theorem KR.jr (h : KR Y G A n F K L) : G (A 17 0) = some (.inr (4, [.inr (.inr (some (A 18 0))), .inl (K 80 0)])) := h.1 17 0 ⟨by decide, rfl⟩
theorem KR.jc (h : KR Y G A n F K L) : G (A 18 0) = some (.inl (0, nN K 81 0, .inl (K 82))) := h.1 18 0 ⟨by decide, rfl⟩
theorem KR.md (h : KR Y G A n F K L) : G (A 19 0) = some (oar 5 200 (fun j => dec A 1 (K 5 j))) := h.1 19 0 ⟨by decide, rfl⟩
theorem KR.cr (h : KR Y G A n F K L) : G (A 20 0) = some (oar 3 12 (fun j => some (A 8 (j + 1)))) := h.1 20 0 ⟨by decide, rfl⟩
/-- the number of the j-th of a row, 0 where there is none -/
def elN (l : List Nat) (j : Nat) : Int32 := nI (l[j]?.getD 0)
/-- list a holds l, in cap places -/
def lsOk (K : MS) (n a : Nat) (l : List Nat) (cap : Nat) : Prop := K 64 a = nI l.length ∧ l.length ≤ cap ∧ cap ≤ 1000 ∧ ((cap = 0 ∧ K 65 a = 0) ∨ (0 < cap ∧ ¬ K 65 a = 0 ∧ K 67 a = nI cap)) ∧ (∀ u ∈ l, 1 ≤ u ∧ u ≤ n) ∧ ∀ j, K (4000 + a) j = elN l j
/-- where its array lies -/
def eaK (Y : YT) (A : AS) (K : MS) (a : Nat) : Nat := if K 65 a = 0 then Y.2.2 0 else A 10 a
theorem el_le {l : List Nat} {n : Nat} (h : ∀ u ∈ l, 1 ≤ u ∧ u ≤ n) (hn : n ≤ 201) (j : Nat) : l[j]?.getD 0 ≤ n := by
  rcases hj : l[j]? with _ | u
  · exact Nat.zero_le _
  · exact (h u (List.mem_of_getElem? hj)).2
theorem el_lt {l : List Nat} {n : Nat} (h : ∀ u ∈ l, 1 ≤ u ∧ u ≤ n) {j : Nat} (hj : j < l.length) : 1 ≤ l[j]?.getD 0 := by
  rw [List.getElem?_eq_getElem hj]
  exact (h _ (List.getElem_mem hj)).1
theorem KR.ls (h : KR Y G A n F K L) {a : Nat} {l : List Nat} {cap : Nat} (ha : a ≤ 13) (hl : lsOk K n a l cap) : G (A 9 a) = some (alC (K 63 a) (eaK Y A K a) l.length) := by
  have := h.1 9 a ha
  rw [this]
  show some (Sum.inr (0, [.inl (K 63 a), .inr (.inr (some (if K 65 a = 0 then Y.2.2 0 else A 10 a))), .inl (K 64 a)]) : AC) = some (Sum.inr (0, [.inl (K 63 a), .inr (.inr (some (eaK Y A K a))), .inl (nI l.length)]) : AC)
  rw [hl.1, eaK]
theorem KR.le (h : KR Y G A n F K L) {a : Nat} {l : List Nat} {cap : Nat} (ha : a ≤ 13) (hl : lsOk K n a l cap) : alE Y G (eaK Y A K a) cap (fun j => dec A 1 (K (4000 + a) j)) := by
  rcases hl.2.2.2.1 with ⟨h1, h2⟩ | ⟨h1, h2, h3⟩
  · exact Or.inl ⟨h1, by rw [eaK, if_pos h2]⟩
  · refine Or.inr ⟨?_, h1⟩
    rw [eaK, if_neg h2]
    have := h.1 10 a ⟨ha, h2⟩
    rw [this]
    show some (oar 6 (nN K 67 a) (fun j => dec A 1 (K (4000 + a) j))) = _
    rw [nN_of h3 (by have := hl.2.2.1; omega)]
    rfl
theorem KR.lel (h : KR Y G A n F K L) {a : Nat} {l : List Nat} {cap : Nat} (hl : lsOk K n a l cap) (j y : Nat) (hy : dec A 1 (K (4000 + a) j) = some y) : ∃ ci fs, G y = some (.inr (ci, fs)) ∧ ci ∈ [6, 7] := by
  obtain ⟨h1, h2⟩ := dec_s hy
  have e := hl.2.2.2.2.2 j
  have hn := h.2.2.1
  have hle := el_le hl.2.2.2.2.1 hn j
  rw [e, elN] at h1 h2
  rw [nI_clamp (by omega)] at h2
  have : l[j]?.getD 0 ≠ 0 := fun z => h1 (by rw [z]; exact nI_0)
  subst h2
  exact ⟨_, _, h.st ⟨by omega, hle⟩, stC_in _⟩
theorem KR.lget (h : KR Y G A n F K L) {a : Nat} {l : List Nat} {cap j : Nat} (hl : lsOk K n a l cap) (hj : j < l.length) : dec A 1 (K (4000 + a) j) = some (A 1 (l[j]?.getD 0)) := by
  have hn := h.2.2.1
  have hle := el_le hl.2.2.2.2.1 hn j
  exact dec_n (hl.2.2.2.2.2 j) (el_lt hl.2.2.2.2.1 hj) (by omega)
/-- apart from list a, nothing has changed -/
def LsX (K K' : MS) (a : Nat) : Prop := ∀ f j, f ≠ 4000 + a → ¬ ((f = 63 ∨ f = 64 ∨ f = 65 ∨ f = 67) ∧ j = a) → K' f j = K f j
def LsA (A A' : AS) (a : Nat) : Prop := ∀ k i, ¬ (k = 10 ∧ i = a) → A' k i = A k i
theorem oar_cg {t N : Nat} {f g : Nat → Option Nat} (h : ∀ j, f j = g j) : oar t N f = oar t N g := by rw [show f = g from funext h]
theorem el_app {l : List Nat} {i j : Nat} : elN (l ++ [i]) j = if j = l.length then nI i else elN l j := by
  unfold elN
  by_cases h : j = l.length
  · subst h; rw [if_pos rfl, List.getElem?_append_right (Nat.le_refl _)]; simp
  · rw [if_neg h]
    rcases Nat.lt_or_ge j l.length with q | q
    · rw [List.getElem?_append_left q]
    · rw [List.getElem?_append_right q, List.getElem?_eq_none (by simp; omega), List.getElem?_eq_none q]
theorem up_id {k q i : Nat} (h : q = A k i) : upA A k i q = A := by
  funext k' i'
  unfold upA
  split
  · rename_i e; rw [h, e.1, e.2]
  · rfl
theorem KR.add (h : KR Y G A n F K L) {a : Nat} {l : List Nat} {cap i : Nat} (ha : a ≤ 13) (hl : lsOk K n a l cap) (hlen : l.length ≤ 300) (hi : 1 ≤ i ∧ i ≤ n) {G' : GH} (hP : addP G G' (A 9 a) (eaK Y A K a) l.length cap (A 1 i) (K 63 a + nI 1) (fun j => dec A 1 (K (4000 + a) j))) : ∃ A' K', KR Y G' A' n F K' L ∧ lsOk K' n a (l ++ [i]) (if l.length < cap then cap else grC cap) ∧ LsA A A' a ∧ LsX K K' a := by
  have hn := h.2.2.1
  have hall : ∀ u ∈ l ++ [i], 1 ≤ u ∧ u ≤ n := by
    intro u hu
    rcases List.mem_append.mp hu with q | q
    · exact hl.2.2.2.2.1 u q
    · rw [List.mem_singleton.mp q]; exact hi
  have hgb : ∀ j, (elN (l ++ [i]) j).toNatClampNeg ≤ n := fun j => by
    have := el_le hall hn j
    rw [elN, nI_clamp (by omega)]; exact this
  have hrow : ∀ j, dec A 1 (elN (l ++ [i]) j) = va_up (fun j => dec A 1 (K (4000 + a) j)) l.length (some (A 1 i)) j := by
    intro j
    rw [el_app]
    by_cases q : j = l.length
    · rw [if_pos q, q, up_eq]; exact dec_n rfl hi.1 (by omega)
    · rw [if_neg q, up_ne q, hl.2.2.2.2.2 j]
  have hle1 : (l ++ [i]).length = l.length + 1 := by simp
  rcases hP with ⟨hlt, rfl⟩ | ⟨hec, q, hq, rfl⟩
  · rcases hl.2.2.2.1 with ⟨h1, h2⟩ | ⟨h1, h2, h3⟩
    · omega
    have hR := h.lsGen ha (A 10 a) cap (elN (l ++ [i])) (K 63 a + nI 1) (nI (l.length + 1)) (K 65 a) h2 (by have := hl.2.2.1; omega) hgb (Or.inl ⟨rfl, h2⟩)
    rw [up_id rfl, oar_cg hrow] at hR
    refine ⟨A, _, (by rw [eaK, if_neg h2]; exact hR), ⟨by rw [lsU_64, hle1], by rw [if_pos hlt, hle1]; omega, by rw [if_pos hlt]; exact hl.2.2.1, Or.inr ⟨by rw [if_pos hlt]; exact h1, by rw [lsU_65]; exact h2, by rw [lsU_67, if_pos hlt]⟩, hall, fun j => lsU_r⟩, fun _ _ _ => rfl, fun f j h1 h2 => lsU_o h1 h2⟩
  · have hnl : ¬ l.length < cap := by omega
    have hgr := grC_lt cap
    have hgl : grC cap ≤ 1000 := by unfold grC; split <;> omega
    have hrow2 : ∀ j, dec A 1 (elN (l ++ [i]) j) = va_up (trc (fun j => dec A 1 (K (4000 + a) j)) cap none) l.length (some (A 1 i)) j := by
      intro j
      rw [hrow j]
      by_cases q : j = l.length
      · rw [q, up_eq, up_eq]
      · rw [up_ne q, up_ne q]
        unfold trc
        split
        · rfl
        · rw [hl.2.2.2.2.2 j]
          exact dec_0 (by rw [elN, List.getElem?_eq_none (by omega)]; exact nI_0)
    have hR := h.lsGen ha q (grC cap) (elN (l ++ [i])) (K 63 a + nI 1) (nI (l.length + 1)) (nI 1) (by decide +kernel) (by omega) hgb (Or.inr hq)
    rw [oar_cg hrow2] at hR
    exact ⟨_, _, hR, ⟨by rw [lsU_64, hle1], by rw [if_neg hnl, hle1]; omega, by rw [if_neg hnl]; exact hgl, Or.inr ⟨by rw [if_neg hnl]; omega, by rw [lsU_65]; decide +kernel, by rw [lsU_67, if_neg hnl]⟩, hall, fun j => lsU_r⟩, fun k i h9 => upA_n h9, fun f j h1 h2 => lsU_o h1 h2⟩
theorem el_rmv {l : List Nat} {i j : Nat} (hi : i < l.length) : elN (l.eraseIdx i) j = if j < i then elN l j else if j + 1 < l.length then elN l (j + 1) else if j + 1 = l.length then 0 else elN l j := by
  unfold elN
  rw [List.getElem?_eraseIdx]
  by_cases h : j < i
  · rw [if_pos h, if_pos h]
  · rw [if_neg h, if_neg h]
    by_cases h2 : j + 1 < l.length
    · rw [if_pos h2]
    · rw [if_neg h2, List.getElem?_eq_none (by omega)]
      split
      · exact nI_0
      · rw [List.getElem?_eq_none (by omega)]
theorem KR.remove (h : KR Y G A n F K L) {a : Nat} {l : List Nat} {cap i : Nat} (ha : a ≤ 13) (hl : lsOk K n a l cap) (hi : i < l.length) : ∃ K', KR Y (va_up (va_up G (A 10 a) (some (oar 6 cap (rmv (fun j => dec A 1 (K (4000 + a) j)) i l.length)))) (A 9 a) (some (alC (K 63 a + nI 1) (A 10 a) (l.length - 1)))) A n F K' L ∧ lsOk K' n a (l.eraseIdx i) cap ∧ LsX K K' a := by
  have hn := h.2.2.1
  have hall : ∀ u ∈ l.eraseIdx i, 1 ≤ u ∧ u ≤ n := fun u hu => hl.2.2.2.2.1 u (List.mem_of_mem_eraseIdx hu)
  have hgb : ∀ j, (elN (l.eraseIdx i) j).toNatClampNeg ≤ n := fun j => by
    have := el_le hall hn j
    rw [elN, nI_clamp (by omega)]; exact this
  have hle1 : (l.eraseIdx i).length = l.length - 1 := by rw [List.length_eraseIdx, if_pos hi]
  rcases hl.2.2.2.1 with ⟨h1, h2⟩ | ⟨h1, h2, h3⟩
  · have := hl.2.1; omega
  have hrow : ∀ j, dec A 1 (elN (l.eraseIdx i) j) = rmv (fun j => dec A 1 (K (4000 + a) j)) i l.length j := by
    intro j
    show _ = if j < i then dec A 1 (K (4000 + a) j) else if j + 1 < l.length then dec A 1 (K (4000 + a) (j + 1)) else if j + 1 = l.length then none else dec A 1 (K (4000 + a) j)
    rw [el_rmv hi, hl.2.2.2.2.2 j, hl.2.2.2.2.2 (j + 1)]
    split
    · rfl
    · split
      · rfl
      · split
        · exact dec_0 rfl
        · rfl
  have hR := h.lsGen ha (A 10 a) cap (elN (l.eraseIdx i)) (K 63 a + nI 1) (nI (l.length - 1)) (K 65 a) h2 (by have := hl.2.2.1; omega) hgb (Or.inl ⟨rfl, h2⟩)
  rw [up_id rfl, oar_cg hrow] at hR
  exact ⟨_, hR, ⟨by rw [lsU_64, hle1], by rw [hle1]; have := hl.2.1; omega, hl.2.2.1, Or.inr ⟨h1, by rw [lsU_65]; exact h2, by rw [lsU_67]⟩, hall, fun j => lsU_r⟩, fun f j h1 h2 => lsU_o h1 h2⟩
theorem el_nil (j : Nat) : elN [] j = 0 := nI_0
theorem KR.clear (h : KR Y G A n F K L) {a : Nat} {l : List Nat} {cap : Nat} (ha : a ≤ 13) (hl : lsOk K n a l cap) {G' : GH} (hP : (cap = 0 ∧ G' = va_up G (A 9 a) (some (alC (K 63 a + nI 1) (eaK Y A K a) 0))) ∨ (0 < cap ∧ G' = va_up (va_up G (eaK Y A K a) (some (oar 6 cap (clr (fun j => dec A 1 (K (4000 + a) j)) l.length)))) (A 9 a) (some (alC (K 63 a + nI 1) (eaK Y A K a) 0)))) : ∃ K', KR Y G' A n F K' L ∧ lsOk K' n a [] cap ∧ LsX K K' a := by
  have hn := h.2.2.1
  rcases hP with ⟨h0, rfl⟩ | ⟨hpos, rfl⟩
  · have hl0 : l.length = 0 := by have := hl.2.1; omega
    have hnil : l = [] := List.eq_nil_of_length_eq_zero hl0
    subst hnil
    have hR := h.put1 (k := 9) (i := a) (f := 63) (j := a) ha (K 63 a + nI 1) rfl (by decide) (by decide) (fun q => by cases q) (fun q => by cases q)
    refine ⟨_, (by
      have e : cel Y A (up2 K 63 a (K 63 a + nI 1)) L 9 a = alC (K 63 a + nI 1) (eaK Y A K a) 0 := by
        show (Sum.inr (0, [.inl (up2 K 63 a (K 63 a + nI 1) 63 a), .inr (.inr (some (if up2 K 63 a (K 63 a + nI 1) 65 a = 0 then Y.2.2 0 else A 10 a))), .inl (up2 K 63 a (K 63 a + nI 1) 64 a)]) : AC) = _
        rw [up2_s, up2_f (by decide), up2_f (by decide), hl.1]; rfl
      rw [e] at hR
      exact hR), ⟨by rw [up2_f (by decide)]; exact hl.1, hl.2.1, hl.2.2.1, Or.inl ⟨h0, by rw [up2_f (by decide)]; exact (hl.2.2.2.1.resolve_right (fun q => by omega)).2⟩, hl.2.2.2.2.1, fun j => by rw [up2_f (by omega)]; exact hl.2.2.2.2.2 j⟩, fun f j h1 h2 => up2_n (fun e => h2 ⟨Or.inl e.1, e.2⟩)⟩
  · rcases hl.2.2.2.1 with ⟨h1, h2⟩ | ⟨h1, h2, h3⟩
    · omega
    have hrow : ∀ j, dec A 1 (elN [] j) = clr (fun j => dec A 1 (K (4000 + a) j)) l.length j := by
      intro j
      show _ = if j < l.length then none else dec A 1 (K (4000 + a) j)
      rw [el_nil, dec_0 rfl]
      split
      · rfl
      · rw [hl.2.2.2.2.2 j]
        exact (dec_0 (by rw [elN, List.getElem?_eq_none (by omega)]; exact nI_0)).symm
    have hR := h.lsGen ha (A 10 a) cap (elN []) (K 63 a + nI 1) (nI 0) (K 65 a) h2 (by have := hl.2.2.1; omega) (fun j => by rw [el_nil]; exact Nat.zero_le _) (Or.inl ⟨rfl, h2⟩)
    rw [up_id rfl, oar_cg hrow] at hR
    exact ⟨_, (by rw [eaK, if_neg h2]; exact hR), ⟨by rw [lsU_64]; rfl, Nat.zero_le _, hl.2.2.1, Or.inr ⟨h1, by rw [lsU_65]; exact h2, by rw [lsU_67]⟩, (fun u hu => by cases hu), fun j => lsU_r⟩, fun f j h1 h2 => lsU_o h1 h2⟩
end KRL
