/-! the class: walkTo -/
section CSW
section STD
variable {Y : YT} {G : GH} {A : AS} {n F : Nat} {K : MS} {L : KL}
/-- failure f stands in this walk -/
def stdK (K : MS) (f : Nat) (wk pl bb ti : Int32) : MS := up2 (up2 (up2 (up2 (up2 K 54 f wk) 55 f pl) 58 f bb) 56 f ti) 57 f (nI 0)
theorem std_o {f g j : Nat} {wk pl bb ti : Int32} (h : g < 54 ∨ 58 < g) : stdK K f wk pl bb ti g j = K g j := by
  unfold stdK; rw [up2_f (by omega), up2_f (by omega), up2_f (by omega), up2_f (by omega), up2_f (by omega)]
theorem std_j {f g j : Nat} {wk pl bb ti : Int32} (h : j ≠ f) : stdK K f wk pl bb ti g j = K g j := by
  unfold stdK; rw [up2_n (fun z => h z.2), up2_n (fun z => h z.2), up2_n (fun z => h z.2), up2_n (fun z => h z.2), up2_n (fun z => h z.2)]
theorem KR.f57 (h : KR Y G A n F K L) {f : Nat} (hi : 1 ≤ f ∧ f ≤ F) (v : Int32) : KR Y (va_up G (A 6 f) (some (fC (K 50 f) (K 51 f) (dec A 6 (K 52 f)) (some (A 7 f)) (K 54 f) (K 55 f) (K 56 f) v (dec A 6 (K 58 f))))) A n F (up2 K 57 f v) L := by
  have h1 := h.put1 (k := 6) (i := f) (f := 57) (j := f) hi v rfl (by decide) (by decide) (fun q => by cases q) (fun q => by cases q)
  have e : cel Y A (up2 K 57 f v) L 6 f = fC (K 50 f) (K 51 f) (dec A 6 (K 52 f)) (some (A 7 f)) (K 54 f) (K 55 f) (K 56 f) v (dec A 6 (K 58 f)) := by
    show fC (up2 K 57 f v 50 f) (up2 K 57 f v 51 f) (dec A 6 (up2 K 57 f v 52 f)) (some (A 7 f)) (up2 K 57 f v 54 f) (up2 K 57 f v 55 f) (up2 K 57 f v 56 f) (up2 K 57 f v 57 f) (dec A 6 (up2 K 57 f v 58 f)) = _
    rw [up2_s, up2_f (by decide), up2_f (by decide), up2_f (by decide), up2_f (by decide), up2_f (by decide), up2_f (by decide), up2_f (by decide)]
  rw [e] at h1; exact h1
theorem KR.std (h : KR Y G A n F K L) {f : Nat} (hi : 1 ≤ f ∧ f ≤ F) (wk pl bb ti : Int32) (hb : bb.toNatClampNeg ≤ F) : KR Y (va_up G (A 6 f) (some (fC (K 50 f) (K 51 f) (dec A 6 (K 52 f)) (some (A 7 f)) wk pl ti (nI 0) (dec A 6 bb)))) A n F (stdK K f wk pl bb ti) L := by
  have h1 := h.put1 (k := 6) (i := f) (f := 54) (j := f) hi wk rfl (by decide) (by decide) (fun q => by cases q) (fun q => by cases q)
  have h2 := h1.put1 (k := 6) (i := f) (f := 55) (j := f) hi pl rfl (by decide) (by decide) (fun q => by cases q) (fun q => by cases q)
  have h3 := h2.put1 (k := 6) (i := f) (f := 58) (j := f) hi bb rfl (by decide) (by decide) (fun q => by cases q) (fun _ => hb)
  have h4 := h3.put1 (k := 6) (i := f) (f := 56) (j := f) hi ti rfl (by decide) (by decide) (fun q => by cases q) (fun q => by cases q)
  have h5 := h4.put1 (k := 6) (i := f) (f := 57) (j := f) hi (nI 0) rfl (by decide) (by decide) (fun q => by cases q) (fun q => by cases q)
  rw [bx_uu, bx_uu, bx_uu, bx_uu] at h5
  have e : cel Y A (stdK K f wk pl bb ti) L 6 f = fC (K 50 f) (K 51 f) (dec A 6 (K 52 f)) (some (A 7 f)) wk pl ti (nI 0) (dec A 6 bb) := by
    show fC (stdK K f wk pl bb ti 50 f) (stdK K f wk pl bb ti 51 f) (dec A 6 (stdK K f wk pl bb ti 52 f)) (some (A 7 f)) (stdK K f wk pl bb ti 54 f) (stdK K f wk pl bb ti 55 f) (stdK K f wk pl bb ti 56 f) (stdK K f wk pl bb ti 57 f) (dec A 6 (stdK K f wk pl bb ti 58 f)) = _
    rw [std_o (by decide), std_o (by decide), std_o (by decide)]
    unfold stdK
    rw [up2_s, up2_f (f := 54) (by decide), up2_f (f := 54) (by decide), up2_f (f := 54) (by decide), up2_f (f := 54) (by decide), up2_s, up2_f (f := 55) (by decide), up2_f (f := 55) (by decide), up2_f (f := 55) (by decide), up2_s, up2_f (f := 56) (by decide), up2_s, up2_f (f := 58) (by decide), up2_f (f := 58) (by decide), up2_s]
  exact e ▸ h5
/-- what the walk needs of the failures -/
def FW (K : MS) (F : Nat) : Prop := ∀ f, 1 ≤ f → f ≤ F → (∃ tu, K 57 f = nI tu ∧ tu ≤ nN K 53 f + 1) ∧ nN K 53 f ≤ 100 ∧ (∃ u, u ≤ F ∧ K 52 f = nI u) ∧ (∃ u, u ≤ F ∧ K 58 f = nI u) ∧ ∀ j, j < nN K 53 f → ∃ u, u ≤ F ∧ K (10000 + f) j = nI u
theorem FW.f57 (h : FW K F) {f tu : Nat} (ht : tu ≤ nN K 53 f) : FW (up2 K 57 f (nI (tu + 1))) F := by
  intro g h1 h2
  obtain ⟨a, b, c, d, e⟩ := h g h1 h2
  refine ⟨?_, ?_, ?_, ?_, ?_⟩
  · by_cases z : g = f
    · subst z
      exact ⟨tu + 1, up2_s _ _ _ _, by rw [nN, up2_f (by decide)]; exact Nat.succ_le_succ ht⟩
    · obtain ⟨u, u1, u2⟩ := a
      exact ⟨u, (up2_n (fun w => z w.2)).trans u1, by rw [nN, up2_f (by decide)]; exact u2⟩
  · rw [nN, up2_f (by decide)]; exact b
  · rw [up2_f (by decide)]; exact c
  · rw [up2_f (by decide)]; exact d
  · intro j hj
    rw [nN, up2_f (by decide)] at hj
    rw [up2_f (by omega)]; exact e j hj
theorem FW.std (h : FW K F) {f u : Nat} {wk pl ti : Int32} (hu : u ≤ F) : FW (stdK K f wk pl (nI u) ti) F := by
  intro g h1 h2
  obtain ⟨a, b, c, d, e⟩ := h g h1 h2
  have e3 : nN (stdK K f wk pl (nI u) ti) 53 g = nN K 53 g := by rw [nN, std_o (by decide)]; rfl
  rw [e3]
  refine ⟨?_, b, ?_, ?_, ?_⟩
  · by_cases z : g = f
    · subst z
      exact ⟨0, by unfold stdK; rw [up2_s], Nat.zero_le _⟩
    · rw [std_j z]; exact a
  · rw [std_o (by decide)]; exact c
  · by_cases z : g = f
    · subst z
      exact ⟨u, hu, by unfold stdK; rw [up2_f (by decide), up2_f (by decide), up2_s]⟩
    · rw [std_j z]; exact d
  · intro j hj
    rw [std_o (by omega)]; exact e j hj
end STD
def wtP (K : MS) (hr : Nat) : Nat := if K 57 hr = 0 then nN K 52 hr else nN K (10000 + hr) (nN K 57 hr - 1)
def wtT (K : MS) (hr : Nat) : Int32 := if K 57 hr = 0 then nI 1 else nI 2
def wtF (i : Int32) : Nat → MS → Int32 → Nat → Nat → MS × Nat
  | 0, K, _, nw, _ => (K, nw)
  | q + 1, K, st, nw, hr =>
    if hr = 0 ∨ K 55 nw = i then (K, nw)
    else if ¬ K 57 hr ≤ nI (nN K 53 hr) then wtF i q K st nw (nN K 58 hr)
    else if wtP K hr = 0 ∨ K 54 (wtP K hr) = K 4 0 then wtF i q (up2 K 57 hr (nI (nN K 57 hr + 1))) st nw hr
    else wtF i q (stdK (up2 K 57 hr (nI (nN K 57 hr + 1))) (wtP K hr) (K 4 0) st (nI hr) (wtT K hr)) (st + nI 1) (wtP K hr) (wtP K hr)
variable {l : Launch} {Y : YT}
theorem dec_I {A : AS} {k u : Nat} (h : 1 ≤ u) (h2 : u < 2 ^ 31) : dec A k (nI u) = some (A k u) := dec_n rfl h h2
set_option maxHeartbeats 1000000 in
theorem k_walkTo (d : Nat) (G : GH) (A : AS) (n F : Nat) (K : MS) (L : KL) (f : Nat) (i : Int32) (hR : KR Y G A n F K L) (hf : 1 ≤ f ∧ f ≤ F) (hW : FW K F) (E : MS × Nat) (hE : E = wtF i 1000000 (stdK (up2 K 4 0 (K 4 0 + nI 1)) f (K 4 0 + nI 1) (nI 0) (nI 0) (nI 0)) (nI 1) f f) : Cd l yX8_walkTo cX8_walkTo 9 (some (.object "PromiseKitchen$Failure")) (d + 1) 0 0 Y [.inr (.inr (some (A 0 0))), .inr (.inr (some (A 6 f))), .inl i] G (fun r G' => r = some (.inr (.inr (if E.1 55 E.2 = i then some (A 6 E.2) else none))) ∧ KR Y G' A n F E.1 L ∧ (1 ≤ E.2 ∧ E.2 ≤ F) ∧ FW E.1 F) := by
  refine Ct.of (ini := False) (by decide +kernel) False.elim rfl (Nat.le_of_ble_eq_true rfl) ?_
  intro p e s m args below meth c C X
  have hF2 : F ≤ 2000 := hR.2.2.2.1
  have R1 := hR.m4 (K 4 0 + nI 1)
  refine b_X8_walkTo_0.go C ⟨_, hR.mn, _, rfl, _, hR.mn, _, R1.mn, trivial, ?_⟩
  refine k_X8_walkTo_18.go C X (c_stand d _ (A 6 f) _ _ _ _ _ _ (K 4 0 + nI 1) (nI 0) (nI 0) _ _ _ none (R1.fl hf)) (rest := []) rfl rfl rfl (fun _ => ⟨_, _, _, rfl, R1.fl hf, by decide⟩) (lb rfl) (Rq.of (by omega) (by decide) (Nat.zero_le _) (Nat.zero_le _)) ?_
  rintro r G9 ⟨rfl, rfl⟩
  have R2 := R1.std hf (K 4 0 + nI 1) (nI 0) (nI 0) (nI 0) (by rw [nI_clamp (by decide)]; exact Nat.zero_le _)
  rw [dec_0 nI_0] at R2
  have hW1 : FW (up2 K 4 0 (K 4 0 + nI 1)) F := by
    intro g h1 h2
    obtain ⟨a, b, c, d, e⟩ := hW g h1 h2
    exact ⟨a, b, c, d, fun j hj => by rw [up2_f (by omega)]; exact e j hj⟩
  have hW2 := hW1.std (f := f) (u := 0) (wk := K 4 0 + nI 1) (pl := nI 0) (ti := nI 0) (Nat.zero_le _)
  refine b_X8_walkTo_21.go C ⟨trivial, ?_⟩
  have fin : ∀ (G1 : GH) (K1 : MS) (nw : Nat) (x3 : Int32) (x5 x6 x7 x8 : Option AV), KR Y G1 A n F K1 L → FW K1 F → (1 ≤ nw ∧ nw ≤ F) → E = (K1, nw) → V p l e (RM (d + 1) 0 0) s m args below meth c Y (GA G s.heap.size) (QM below args s (RM (d + 1) 0 0) Y G (fun r G' => r = some (.inr (.inr (if E.1 55 E.2 = i then some (A 6 E.2) else none))) ∧ KR Y G' A n F E.1 L ∧ (1 ≤ E.2 ∧ E.2 ≤ F) ∧ FW E.1 F)) 183 G1 0 0 [some (.inr (.inr (some (A 0 0)))), some (.inr (.inr (some (A 6 f)))), some (.inl i), some (.inl x3), some (.inr (.inr (some (A 6 nw)))), x5, x6, x7, x8] [] := by
    intro G1 K1 nw x3 x5 x6 x7 x8 R hw hn e1
    subst e1
    refine b_X8_walkTo_183.go C ⟨_, R.fl hn, fun h => ⟨trivial, ?_⟩, fun h => ⟨trivial, ?_⟩⟩
    · refine b_X8_walkTo_197.go C ⟨trivial, ?_⟩
      exact V_aret C X (Or.inl ⟨_, rfl⟩) d_X8_walkTo_198 (Nat.zero_le _) (Nat.zero_le _) ⟨by rw [if_neg h], R, hn, hw⟩
    · refine b_X8_walkTo_192.go C ⟨trivial, ?_⟩
      exact V_aret C X (Or.inl ⟨_, rfl⟩) d_X8_walkTo_198 (Nat.zero_le _) (Nat.zero_le _) ⟨by rw [if_pos h], R, hn, hw⟩
  refine (show ∀ (q j : Nat) (G1 : GH) (K1 : MS) (st : Int32) (nw hr : Nat) (o5 : Option Nat) (x7 x8 : Option AV), j + q = 1000000 → KR Y G1 A n F K1 L → FW K1 F → (1 ≤ nw ∧ nw ≤ F) → hr ≤ F → o5 = dec A 6 (nI hr) → E = wtF i q K1 st nw hr → V p l e (RM (d + 1) 0 0) s m args below meth c Y (GA G s.heap.size) (QM below args s (RM (d + 1) 0 0) Y G (fun r G' => r = some (.inr (.inr (if E.1 55 E.2 = i then some (A 6 E.2) else none))) ∧ KR Y G' A n F E.1 L ∧ (1 ≤ E.2 ∧ E.2 ≤ F) ∧ FW E.1 F)) 32 G1 0 0 [some (.inr (.inr (some (A 0 0)))), some (.inr (.inr (some (A 6 f)))), some (.inl i), some (.inl st), some (.inr (.inr (some (A 6 nw)))), some (.inr (.inr o5)), some (.inl (nI j)), x7, x8] [] from ?_) 1000000 0 _ _ _ _ f _ _ _ (Nat.zero_add _) R2 hW2 hf hf.2 (dec_I hf.1 (by omega)).symm hE
  intro q
  induction q with
  | zero =>
    intro j G1 K1 st nw hr o5 x7 x8 hj R hw hn hh e5 e1
    refine b_X8_walkTo_32.go C ⟨fun _ => ⟨trivial, ?_⟩, fun h => absurd (by rw [show j = 1000000 from by omega]; exact Int32.le_refl _) h⟩
    exact fin _ _ _ _ _ _ _ _ R hw hn e1
  | succ q ih =>
    intro j G1 K1 st nw hr o5 x7 x8 hj R hw hn hh e5 e1
    subst e5
    rw [wtF] at e1
    refine b_X8_walkTo_32.go C ⟨fun h => absurd ((nI_leI (by decide) (by omega)).mp h) (by omega), fun _ => ⟨trivial, ?_⟩⟩
    by_cases h0 : hr = 0
    · subst h0
      rw [if_pos (Or.inl rfl)] at e1
      refine b_X8_walkTo_40.go C ⟨fun _ => ⟨trivial, ?_⟩, fun a h => by rw [dec_0 nI_0] at h; cases h⟩
      exact fin _ _ _ _ _ _ _ _ R hw hn e1
    have hr1 : 1 ≤ hr ∧ hr ≤ F := ⟨by omega, hh⟩
    rw [dec_I hr1.1 (by omega)]
    refine b_X8_walkTo_40.go C ⟨fun h => (by cases h), fun _ _ => ⟨trivial, ?_⟩⟩
    refine b_X8_walkTo_45.go C ⟨_, R.fl hn, fun h => ⟨trivial, ?_⟩, fun h => ⟨trivial, ?_⟩⟩
    · rw [if_pos (Or.inr h)] at e1
      exact fin _ _ _ _ _ _ _ _ R hw hn e1
    rw [if_neg (fun z => z.elim h0 h)] at e1
    obtain ⟨⟨tu, t1, t2⟩, w2, ⟨u2, u3, u4⟩, ⟨v2, v3, v4⟩, w5⟩ := hw hr hr1.1 hr1.2
    have next : ∀ (G2 : GH) (K2 : MS) (st2 : Int32) (nw2 hr2 : Nat) (o5 : Option Nat) (x7 x8 : Option AV), KR Y G2 A n F K2 L → FW K2 F → (1 ≤ nw2 ∧ nw2 ≤ F) → hr2 ≤ F → o5 = dec A 6 (nI hr2) → E = wtF i q K2 st2 nw2 hr2 → V p l e (RM (d + 1) 0 0) s m args below meth c Y (GA G s.heap.size) (QM below args s (RM (d + 1) 0 0) Y G (fun r G' => r = some (.inr (.inr (if E.1 55 E.2 = i then some (A 6 E.2) else none))) ∧ KR Y G' A n F E.1 L ∧ (1 ≤ E.2 ∧ E.2 ≤ F) ∧ FW E.1 F)) 177 G2 0 0 [some (.inr (.inr (some (A 0 0)))), some (.inr (.inr (some (A 6 f)))), some (.inl i), some (.inl st2), some (.inr (.inr (some (A 6 nw2)))), some (.inr (.inr o5)), some (.inl (nI j)), x7, x8] [] := by
      intro G2 K2 st2 nw2 hr2 o5 x7 x8 a1 a2 a3 a4 a5 a6
      refine b_X8_walkTo_177.go C ⟨nI (j + 1), nI_1 _, trivial, ?_⟩
      exact ih (j + 1) G2 K2 st2 nw2 hr2 o5 x7 x8 (by omega) a1 a2 a3 a4 a5 a6
    refine b_X8_walkTo_54.go C ⟨_, R.fl hr1, _, R.fl hr1, nN K1 53 hr, Or.inl ⟨4, _, by decide, R.su hr1⟩, fun h6 => ⟨trivial, ?_⟩, fun h6 => ⟨trivial, ?_⟩⟩
    rotate_left
    · rw [if_pos h6] at e1
      refine b_X8_walkTo_68.go C ⟨_, R.fl hr1, trivial, ?_⟩
      have ev : nN K1 58 hr = v2 := by rw [nN, v4, nI_clamp (by omega)]
      rw [ev] at e1
      exact next _ _ _ _ v2 _ _ _ R hw hn v3 (by rw [v4]) e1
    rw [if_neg (fun z => z h6)] at e1
    have h6' : tu ≤ nN K1 53 hr := by
      rw [t1] at h6
      exact (nI_leI (by omega) (by omega)).mp h6
    have et : nN K1 57 hr = tu := by rw [nN, t1, nI_clamp (by omega)]
    rw [et] at e1
    have R5 := R.f57 hr1 (nI (tu + 1))
    have hw5 : FW (up2 K1 57 hr (nI (tu + 1))) F := hw.f57 h6'
    have tail : ∀ (pt : Nat) (x8 : Option AV), pt ≤ F → pt = wtP K1 hr → V p l e (RM (d + 1) 0 0) s m args below meth c Y (GA G s.heap.size) (QM below args s (RM (d + 1) 0 0) Y G (fun r G' => r = some (.inr (.inr (if E.1 55 E.2 = i then some (A 6 E.2) else none))) ∧ KR Y G' A n F E.1 L ∧ (1 ≤ E.2 ∧ E.2 ≤ F) ∧ FW E.1 F)) 122 G1 0 0 [some (.inr (.inr (some (A 0 0)))), some (.inr (.inr (some (A 6 f)))), some (.inl i), some (.inl st), some (.inr (.inr (some (A 6 nw)))), some (.inr (.inr (some (A 6 hr)))), some (.inl (nI j)), some (.inl (wtT K1 hr)), x8] [.inr (.inr (dec A 6 (nI pt)))] := by
      intro pt x8 hp ep
      rw [← ep] at e1
      have eq57 : K1 57 hr + nI 1 = nI (tu + 1) := by rw [t1]; exact nI_1 _
      by_cases p0 : pt = 0
      · subst p0
        rw [if_pos (Or.inl rfl)] at e1
        rw [dec_0 nI_0]
        refine b_X8_walkTo_122.go C ⟨_, R.fl hr1, _, eq57, _, R.fl hr1, fun _ => ⟨trivial, ?_⟩, fun a h => by cases h⟩
        exact next _ _ _ _ hr _ _ _ R5 hw5 hn hh (dec_I hr1.1 (by omega)).symm e1
      have p1 : 1 ≤ pt ∧ pt ≤ F := ⟨by omega, hp⟩
      rw [dec_I p1.1 (by omega)]
      refine b_X8_walkTo_122.go C ⟨_, R.fl hr1, _, eq57, _, R.fl hr1, fun h => (by cases h), fun _ _ => ⟨trivial, ?_⟩⟩
      have e54 : up2 K1 57 hr (nI (tu + 1)) 54 pt = K1 54 pt := by rw [up2_f (by decide)]
      refine b_X8_walkTo_140.go C ⟨_, R5.fl p1, _, R5.mn, fun h7 => ⟨trivial, ?_⟩, fun h7 => ⟨trivial, ?_⟩⟩
      · have h7 : K1 54 pt = K1 4 0 := e54.symm.trans h7
        rw [if_pos (Or.inr h7)] at e1
        exact next _ _ _ _ hr _ _ _ R5 hw5 hn hh (dec_I hr1.1 (by omega)).symm e1
      · rw [if_neg (fun z => z.elim p0 (fun w => h7 (e54.trans w)))] at e1
        refine b_X8_walkTo_152.go C ⟨_, R5.mn, trivial, ?_⟩
        refine k_X8_walkTo_163.go C X (c_stand d _ (A 6 pt) _ _ _ _ _ _ (K1 4 0) st (wtT K1 hr) _ _ _ (some (A 6 hr)) (R5.fl p1)) (rest := []) rfl rfl rfl (fun _ => ⟨_, _, _, rfl, R5.fl p1, by decide⟩) (lb rfl) (Rq.of (by omega) (by decide) (Nat.zero_le _) (Nat.zero_le _)) ?_
        rintro r G9 ⟨rfl, rfl⟩
        have R6 := R5.std p1 (K1 4 0) st (nI hr) (wtT K1 hr) (by rw [nI_clamp (by omega)]; exact hh)
        rw [dec_I hr1.1 (by omega)] at R6
        refine b_X8_walkTo_166.go C ⟨_, rfl, trivial, ?_⟩
        exact next _ _ _ pt pt _ _ _ R6 (hw5.std hh) p1 hp (dec_I p1.1 (by omega)).symm e1
    by_cases hT : K1 57 hr = 0
    · have eP : u2 = wtP K1 hr := by unfold wtP; rw [if_pos hT, nN, u4, nI_clamp (by omega)]
      have eT : nI 1 = wtT K1 hr := by unfold wtT; rw [if_pos hT]
      refine b_X8_walkTo_78.go C ⟨_, R.fl hr1, fun h => absurd hT h, fun _ => ⟨trivial, ?_⟩⟩
      refine b_X8_walkTo_86.go C ⟨trivial, ?_⟩
      refine b_X8_walkTo_91.go C ⟨_, R.fl hr1, fun h => absurd hT h, fun _ => ⟨trivial, ?_⟩⟩
      refine b_X8_walkTo_101.go C ⟨_, R.fl hr1, trivial, ?_⟩
      rw [eT, u4]
      exact tail u2 _ u3 eP
    · have tu1 : 1 ≤ tu := Nat.pos_of_ne_zero (fun z => hT (by rw [t1, z]; exact nI_0))
      obtain ⟨y2, y3, y4⟩ := w5 (tu - 1) (by omega)
      have eP : y2 = wtP K1 hr := by unfold wtP; rw [if_neg hT, et, nN, y4, nI_clamp (by omega)]
      have eT : nI 2 = wtT K1 hr := by unfold wtT; rw [if_neg hT]
      refine b_X8_walkTo_78.go C ⟨_, R.fl hr1, fun _ => ⟨trivial, ?_⟩, fun h => absurd h hT⟩
      refine b_X8_walkTo_90.go C ⟨trivial, ?_⟩
      refine b_X8_walkTo_91.go C ⟨_, R.fl hr1, fun _ => ⟨trivial, ?_⟩, fun h => absurd h hT⟩
      refine b_X8_walkTo_109.go C ⟨_, R.fl hr1, _, R.fl hr1, nI (tu - 1), (congrArg (· - nI 1) t1).trans (pk_sub tu1), _, _, R.su hr1, tu - 1, rfl, by omega, by omega, _, congrArg (dec A 6) y4, trivial, ?_⟩
      rw [eT]
      exact tail y2 _ y3 eP
end CSW
