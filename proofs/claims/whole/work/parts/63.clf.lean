/-! the class: any's rule, settle -/
section CLF
variable {l : Launch} {Y : YT}
/-- the row g, whose first a are in order, gets u -/
def shF (K : MS) (u : Nat) : Nat → (Nat → Int32) → (Nat → Int32)
  | 0, g => upd g 0 (nI u)
  | a + 1, g => if K 20 (g a).toNatClampNeg ≤ K 20 u then upd g (a + 1) (nI u) else shF K u a (upd g (a + 1) (g a))
def bypF (K : MS) (i : Nat) (v : Int32) (ct : Nat) : Nat → Nat → Nat → (Nat → Int32) → (Nat → Int32) × Nat
  | 0, _, z, g => (g, z)
  | q + 1, j, z, g => if K 16 (iK K i j) = v ∧ z < ct then bypF K i v ct q (j + 1) (z + 1) (shF K (iK K i j) z g) else bypF K i v ct q (j + 1) z g
def bypK (K : MS) (i : Nat) (v : Int32) (ct : Nat) : Nat → Int32 := (bypF K i v ct (nN K 12 i) 0 0 (fun _ => 0)).1
/-- z stages, then nothing -/
def rwOk (n z : Nat) (g : Nat → Int32) : Prop := ∀ j, (j < z → ∃ u, 1 ≤ u ∧ u ≤ n ∧ g j = nI u) ∧ (z ≤ j → g j = 0)
/-- the same, place a aside -/
def rwA (n z a : Nat) (g : Nat → Int32) : Prop := ∀ j, j ≠ a → (j < z + 1 → ∃ u, 1 ≤ u ∧ u ≤ n ∧ g j = nI u) ∧ (z + 1 ≤ j → g j = 0)
theorem rwA.put {n z a u : Nat} {g : Nat → Int32} (h : rwA n z a g) (ha : a ≤ z) (h1 : 1 ≤ u) (h2 : u ≤ n) : rwOk n (z + 1) (upd g a (nI u)) := by
  intro j
  by_cases e : j = a
  · subst e
    exact ⟨fun _ => ⟨u, h1, h2, by simp [upd]⟩, fun q => by omega⟩
  · have := h j e
    simp only [upd, if_neg e]
    exact this
theorem rwA.mv {n z a : Nat} {g : Nat → Int32} (h : rwA n z (a + 1) g) (ha : a + 1 ≤ z) : rwA n z a (upd g (a + 1) (g a)) := by
  intro j hj
  by_cases e : j = a + 1
  · subst e
    have := h a (by omega)
    refine ⟨fun _ => ?_, fun q => by omega⟩
    obtain ⟨u, h1, h2, h3⟩ := this.1 (by omega)
    exact ⟨u, h1, h2, by simp only [upd, if_true]; exact h3⟩
  · have := h j e
    simp only [upd, if_neg e]
    exact this
theorem dec_up {A : AS} {k a : Nat} (g : Nat → Int32) (v : Int32) {o : Option Nat} (h : dec A k v = o) : va_up (fun j => dec A k (g j)) a o = (fun j => dec A k (upd g a v j)) := by
  funext j
  by_cases e : j = a
  · subst e; rw [up_eq]; simp [upd, h]
  · rw [up_ne e]; simp [upd, e]
theorem cnt_ge (K : MS) (i : Nat) (v : Int32) : ∀ (q j a : Nat), a ≤ cntF K i v q j a
  | 0, _, _ => Nat.le_refl _
  | q + 1, j, a => by
    rw [cntF]
    have h1 := cnt_ge K i v q (j + 1) (a + 1)
    have h2 := cnt_ge K i v q (j + 1) a
    split <;> omega
theorem byp_z (K : MS) (i : Nat) (v : Int32) (ct : Nat) : ∀ (q j z : Nat) (g : Nat → Int32), cntF K i v q j z ≤ ct → (bypF K i v ct q j z g).2 = cntF K i v q j z
  | 0, _, _, _, _ => rfl
  | q + 1, j, z, g, h => by
    rw [bypF, cntF]
    rw [cntF] at h
    by_cases e : K 16 (iK K i j) = v
    · rw [if_pos e] at h ⊢
      have := cnt_ge K i v q (j + 1) (z + 1)
      rw [if_pos ⟨e, by omega⟩]
      exact byp_z K i v ct q (j + 1) (z + 1) _ h
    · rw [if_neg e] at h ⊢
      rw [if_neg (fun q => e q.1)]
      exact byp_z K i v ct q (j + 1) z _ h
set_option maxHeartbeats 1000000 in
theorem k_byPlace (d : Nat) (G : GH) (A : AS) (n F : Nat) (K : MS) (L : KL) (i0 ct : Nat) (v : Int32) (hR : KR Y G A n F K L) (hi : 1 ≤ i0 ∧ i0 ≤ n) (hin : inK K n i0) (hct : ct ≤ 24) : Cd l yX5_byPlace cX5_byPlace 10 (some (.array (.object "PromiseKitchen$Stage"))) d 1 ct Y [.inr (.inr (some (A 1 i0))), .inl v, .inl (nI ct)] G (fun r G' => ∃ q, G q = none ∧ r = some (.inr (.inr (some q))) ∧ G' = va_up G q (some (oar 5 ct (fun j => dec A 1 (bypK K i0 v ct j)))) ∧ rwOk n (bypF K i0 v ct (nN K 12 i0) 0 0 (fun _ => 0)).2 (bypK K i0 v ct)) := by
  refine Ct.of (ini := False) (by decide +kernel) False.elim rfl (Nat.le_of_ble_eq_true rfl) ?_
  intro p e s m args below meth c C X
  have hn := hR.2.2.1
  obtain ⟨hi1, hi2, hi3⟩ := hin
  refine b_X5_byPlace_0.go C ⟨ct, rfl, by omega, by show _ ≤ 1; omega, by show _ ≤ ct; omega, (fun q0 hq0 => ⟨_, _, (hR.fresh hq0 _).st (by omega), stC_ci _, nN K 12 i0, Or.inl ⟨5, _, by decide, (hR.fresh hq0 _).inp (by omega)⟩, trivial, ?_⟩)⟩
  refine (show ∀ (q j z : Nat) (g : Nat → Int32) (o8 o9 : Option AV) (G1 : GH), j + q = nN K 12 i0 → z ≤ ct → rwOk n z g → bypF K i0 v ct (nN K 12 i0) 0 0 (fun _ => 0) = bypF K i0 v ct q j z g → G1 = va_up G q0 (some (oar 5 ct (fun j => dec A 1 (g j)))) → V p l e (RM d 1 ct) s m args below meth c Y (GA G s.heap.size) (QM below args s (RM d 1 ct) Y G (fun r G' => ∃ q, G q = none ∧ r = some (.inr (.inr (some q))) ∧ G' = va_up G q (some (oar 5 ct (fun j => dec A 1 (bypK K i0 v ct j)))) ∧ rwOk n (bypF K i0 v ct (nN K 12 i0) 0 0 (fun _ => 0)).2 (bypK K i0 v ct))) 22 G1 (0 + 1) (0 + ct) [some (.inr (.inr (some (A 1 i0)))), some (.inl v), some (.inl (nI ct)), some (.inr (.inr (some q0))), some (.inl (nI z)), some (.inr (.inr (some (A 2 i0)))), some (.inl (nI (nN K 12 i0))), some (.inl (nI j)), o8, o9] [] from ?_) (nN K 12 i0) 0 0 (fun _ => 0) none none _ (by omega) (by omega) (fun j => ⟨fun h => by omega, fun _ => rfl⟩) rfl (congrArg (fun f => va_up G q0 (some (oar 5 ct f))) (funext (fun _ => (dec_0 rfl).symm)))
  intro q
  induction q with
  | zero =>
    intro j z g o8 o9 G1 hj hz hg hs e9
    subst e9
    refine b_X5_byPlace_22.go C ⟨fun h22 => ⟨trivial, ?_⟩, fun h => absurd (nI_le (by omega) (by omega)) h⟩
    refine b_X5_byPlace_108.go C ⟨trivial, ?_⟩
    exact V_aret C X (Or.inr ⟨_, rfl⟩) d_X5_byPlace_109 (by show _ ≤ 1; omega) (by show _ ≤ ct; omega) ⟨q0, hq0, rfl, by rw [bypK, hs, bypF], by rw [bypK, hs, bypF]; exact hg⟩
  | succ q ih =>
    intro j z g o8 o9 G1 hj hz hg hs e9
    subst e9
    obtain ⟨e1, e2, e3⟩ := hi3 j (by omega)
    have R1 := hR.fresh hq0 (oar 5 ct (fun j => dec A 1 (g j)))
    have nx : ∀ (z' : Nat) (g' : Nat → Int32) (o9' : Option AV) (G1 : GH), z' ≤ ct → rwOk n z' g' → bypF K i0 v ct (nN K 12 i0) 0 0 (fun _ => 0) = bypF K i0 v ct q (j + 1) z' g' → G1 = va_up G q0 (some (oar 5 ct (fun j => dec A 1 (g' j)))) → V p l e (RM d 1 ct) s m args below meth c Y (GA G s.heap.size) (QM below args s (RM d 1 ct) Y G (fun r G' => ∃ q, G q = none ∧ r = some (.inr (.inr (some q))) ∧ G' = va_up G q (some (oar 5 ct (fun j => dec A 1 (bypK K i0 v ct j)))) ∧ rwOk n (bypF K i0 v ct (nN K 12 i0) 0 0 (fun _ => 0)).2 (bypK K i0 v ct))) 102 G1 (0 + 1) (0 + ct) [some (.inr (.inr (some (A 1 i0)))), some (.inl v), some (.inl (nI ct)), some (.inr (.inr (some q0))), some (.inl (nI z')), some (.inr (.inr (some (A 2 i0)))), some (.inl (nI (nN K 12 i0))), some (.inl (nI j)), some (.inr (.inr (some (A 1 (iK K i0 j))))), o9'] [] := by
      intro z' g' o9' G1 h1 h2 h3 h4
      refine b_X5_byPlace_102.go C ⟨_, nI_1 _, trivial, ?_⟩
      exact ih (j + 1) z' g' _ _ _ (by omega) h1 h2 h3 h4
    refine b_X5_byPlace_22.go C ⟨fun h => absurd (show nN K 12 i0 ≤ j from (nI_leI (by omega) (by omega)).mp h) (by omega), fun h22 => ⟨trivial, ?_⟩⟩
    refine b_X5_byPlace_29.go C ⟨_, _, R1.inp (by omega), j, rfl, by show j < nN K 12 i0; omega, by omega, _, dec_n (e1) (by omega) (by omega), _, _, R1.st (by omega), stC_ci _, fun h29 => ⟨trivial, ?_⟩, fun h29 => ⟨trivial, ?_⟩⟩
    · exact nx z g _ _ hz hg (by rw [hs, bypF, if_neg (fun q => h29 q.1)]) rfl
    have h29 : K 16 (iK K i0 j) = v := h29
    refine b_X5_byPlace_45.go C ⟨fun h45 => ⟨trivial, ?_⟩, fun h45 => ⟨trivial, ?_⟩⟩
    · have hc : ct ≤ z := (nI_leI (by omega) (by omega)).mp h45
      exact nx z g _ _ hz hg (by rw [hs, bypF, if_neg (fun q => by omega)]) rfl
    have hc : z < ct := Nat.lt_of_not_le (fun q9 => absurd (nI_le q9 (by omega)) h45)
    refine b_X5_byPlace_51.go C ⟨trivial, ?_⟩
    refine (show ∀ (a : Nat) (g1 : Nat → Int32) (G1 : GH), a ≤ z → rwA n z a g1 → shF K (iK K i0 j) z g = shF K (iK K i0 j) a g1 → G1 = va_up G q0 (some (oar 5 ct (fun j => dec A 1 (g1 j)))) → V p l e (RM d 1 ct) s m args below meth c Y (GA G s.heap.size) (QM below args s (RM d 1 ct) Y G (fun r G' => ∃ q, G q = none ∧ r = some (.inr (.inr (some q))) ∧ G' = va_up G q (some (oar 5 ct (fun j => dec A 1 (bypK K i0 v ct j)))) ∧ rwOk n (bypF K i0 v ct (nN K 12 i0) 0 0 (fun _ => 0)).2 (bypK K i0 v ct))) 55 G1 (0 + 1) (0 + ct) [some (.inr (.inr (some (A 1 i0)))), some (.inl v), some (.inl (nI ct)), some (.inr (.inr (some q0))), some (.inl (nI z)), some (.inr (.inr (some (A 2 i0)))), some (.inl (nI (nN K 12 i0))), some (.inl (nI j)), some (.inr (.inr (some (A 1 (iK K i0 j))))), some (.inl (nI a))] [] from ?_) z g _ (Nat.le_refl _) (fun j hj => ⟨fun h => (hg j).1 (by omega), fun h => (hg j).2 (by omega)⟩) rfl rfl
    have st : ∀ (a : Nat) (g1 : Nat → Int32) (G1 : GH), a ≤ z → rwA n z a g1 → shF K (iK K i0 j) z g = upd g1 a (nI (iK K i0 j)) → G1 = va_up G q0 (some (oar 5 ct (fun j => dec A 1 (g1 j)))) → V p l e (RM d 1 ct) s m args below meth c Y (GA G s.heap.size) (QM below args s (RM d 1 ct) Y G (fun r G' => ∃ q, G q = none ∧ r = some (.inr (.inr (some q))) ∧ G' = va_up G q (some (oar 5 ct (fun j => dec A 1 (bypK K i0 v ct j)))) ∧ rwOk n (bypF K i0 v ct (nN K 12 i0) 0 0 (fun _ => 0)).2 (bypK K i0 v ct))) 93 G1 (0 + 1) (0 + ct) [some (.inr (.inr (some (A 1 i0)))), some (.inl v), some (.inl (nI ct)), some (.inr (.inr (some q0))), some (.inl (nI z)), some (.inr (.inr (some (A 2 i0)))), some (.inl (nI (nN K 12 i0))), some (.inl (nI j)), some (.inr (.inr (some (A 1 (iK K i0 j))))), some (.inl (nI a))] [] := by
      intro a g1 G1 ha h1 h2 h3
      subst h3
      have R2 := hR.fresh hq0 (oar 5 ct (fun j => dec A 1 (g1 j)))
      refine b_X5_byPlace_93.go C ⟨fun b9 h9 => by cases h9; exact ⟨_, _, R2.st (i := iK K i0 j) (by omega), stC_in _⟩, _, _, up_eq, a, rfl, by omega, by omega, _, nI_1 _, trivial, ?_⟩
      refine nx (z + 1) (upd g1 a (nI (iK K i0 j))) _ _ (by omega) (h1.put ha e2 e3) (by rw [hs, bypF, if_pos ⟨h29, hc⟩, h2]) ?_
      rw [bx_uu, dec_up g1 (nI (iK K i0 j)) (dec_n rfl e2 (by omega))]; rfl
    intro a
    induction a with
    | zero =>
      intro g1 G1 ha h1 h2 h3
      refine b_X5_byPlace_55.go C ⟨fun _ => ⟨trivial, ?_⟩, fun h => absurd (by decide +kernel) h⟩
      exact st 0 g1 _ ha h1 h2 h3
    | succ a iha =>
      intro g1 G1 ha h1 h2 h3
      refine b_X5_byPlace_55.go C ⟨fun h => absurd (show nI (a + 1) ≤ nI 0 by rw [nI_0]; exact h) (fun z => by have := (nI_leI (by omega) (by omega)).mp z; omega), fun _ => ⟨trivial, ?_⟩⟩
      obtain ⟨u, u1, u2, u3⟩ := (h1 a (by omega)).1 (by omega)
      have R2 := hR.fresh hq0 (oar 5 ct (fun j => dec A 1 (g1 j)))
      have eu : (g1 a).toNatClampNeg = u := by rw [u3, nI_clamp (by omega)]
      rw [shF, eu] at h2
      subst h3
      refine b_X5_byPlace_60.go C ⟨_, pk_sub (by omega), _, _, up_eq, a, rfl, by omega, by omega, _, dec_n u3 u1 (by omega), _, _, R2.st (i := u) (by omega), stC_ci _, _, _, R2.st (i := iK K i0 j) (by omega), stC_ci _, fun h60 => ⟨trivial, ?_⟩, fun h60 => ⟨trivial, ?_⟩⟩
      · have h60 : K 20 u ≤ K 20 (iK K i0 j) := h60
        rw [if_pos h60] at h2
        exact st (a + 1) g1 _ ha h1 h2 rfl
      · have h60 : ¬ K 20 u ≤ K 20 (iK K i0 j) := h60
        rw [if_neg h60] at h2
        refine b_X5_byPlace_77.go C ⟨_, pk_sub (by omega), _, _, up_eq, a, rfl, by omega, by omega, _, dec_n u3 u1 (by omega), fun b9 h9 => by cases h9; exact ⟨_, _, R2.st (i := u) (by omega), stC_in _⟩, _, _, up_eq, a + 1, rfl, by omega, by omega, _, pk_m1 _, trivial, ?_⟩
        refine iha (upd g1 (a + 1) (g1 a)) _ (by omega) (h1.mv ha) h2 ?_
        rw [bx_uu, dec_up g1 (g1 a) (dec_n u3 u1 (by omega))]; rfl
/-- the failures of the first m of g -/
def supA (K : MS) (g : Nat → Int32) (m : Nat) : Nat → Int32 := fun j => if j < m then K 18 (g j).toNatClampNeg else 0
set_option maxHeartbeats 1000000 in
theorem k_failAny (d : Nat) (G : GH) (A : AS) (n F : Nat) (K : MS) (L : KL) (i0 q9 ct : Nat) (g : Nat → Int32) (hR : KR Y G A n F K L) (hi : 1 ≤ i0 ∧ i0 ≤ n) (hq9 : G q9 = some (oar 5 (ct + 1) (fun j => dec A 1 (g j)))) (hct : ct < 24) (hg : rwOk n (ct + 1) g) (hfl : flK K n F) (hF : F + 1 ≤ 2000) : Cd l yX5_failAny cX5_failAny 5 none (d + 2) 2 ((ct + 9)) Y [.inr (.inr (some (A 1 i0))), .inr (.inr (some q9))] G (fun r G' => r = none ∧ SP Y G' A n F K L i0 (rsF (nI 2) (K 18 (g ct).toNatClampNeg) ct (supA K g ct))) := by
  refine Ct.of (ini := False) (by decide +kernel) False.elim rfl (Nat.le_of_ble_eq_true rfl) ?_
  intro p e s m args below meth c C X
  have hn := hR.2.2.1
  refine b_X5_failAny_0.go C ⟨ct + 1, Or.inl ⟨5, _, by decide, hq9⟩, nI ct, (pk_sub (by omega)).trans (by rw [Nat.add_sub_cancel]), ct, rfl, by omega, by show _ ≤ 2; omega, by show _ ≤ ct + 9; omega, fun q3 hq3 => ⟨trivial, ?_⟩⟩
  have h93 : q9 ≠ q3 := ne_none hq9 hq3
  refine (show ∀ (q j : Nat) (G1 : GH), j + q = ct → G1 = va_up G q3 (some (oar 4 ct (fun x => dec A 6 (supA K g j x)))) → V p l e (RM (d + 2) 2 (((ct + 9)))) s m args below meth c Y (GA G s.heap.size) (QM below args s (RM (d + 2) 2 (((ct + 9)))) Y G (fun r G' => r = none ∧ SP Y G' A n F K L i0 (rsF (nI 2) (K 18 (g ct).toNatClampNeg) ct (supA K g ct)))) 13 G1 (0 + 1) (0 + ct) [some (.inr (.inr (some (A 1 i0)))), some (.inr (.inr (some q9))), some (.inl (nI ct)), some (.inr (.inr (some q3))), some (.inl (nI j))] [] from ?_) ct 0 _ (by omega) (congrArg (fun f => va_up G q3 (some (oar 4 ct f))) (funext (fun _ => (dec_0 rfl).symm)))
  intro q
  induction q with
  | zero =>
    intro j G1 hj e1
    obtain rfl : ct = j := by omega
    subst e1
    refine b_X5_failAny_13.go C ⟨fun h13 => ⟨trivial, ?_⟩, fun h => absurd (nI_le (by omega) (by omega)) h⟩
    obtain ⟨u, u1, u2, u3⟩ := (hg ct).1 (by omega)
    have eu : (g ct).toNatClampNeg = u := by rw [u3, nI_clamp (by omega)]
    have R2 := hR.fresh hq3 (oar 4 ct (fun x => dec A 6 (supA K g ct x)))
    refine b_X5_failAny_36.go C ⟨by show _ ≤ 2; omega, by show _ ≤ ct + 9; omega, fun qf hqf => ?_⟩
    have R3 := R2.fresh hqf (fC 0 0 none none 0 0 0 0 none)
    have hne : q3 ≠ qf := ne_none up_eq hqf
    have hqf' : G qf = none := (up_ne (Ne.symm hne)).symm.trans hqf
    have h9f : q9 ≠ qf := ne_none hq9 hqf'
    refine ⟨_, _, R3.st hi, stC_ci _, _, _, (up_ne h9f).trans ((up_ne h93).trans hq9), ct, rfl, by omega, by omega, _, dec_n u3 u1 (by omega), _, _, R3.st ⟨u1, u2⟩, stC_ci _, trivial, ?_⟩
    refine k_X5_failAny_53.go C X (c_Failure4 d _ qf (nI 2) (K 10 i0) (dec A 6 (K 18 u)) (some q3) up_eq) (rest := [.inr (.inr (some qf)), .inr (.inr (some (A 1 i0)))]) rfl rfl rfl (fun _ => ⟨_, _, _, rfl, up_eq, by decide⟩) (lb rfl) (Rq.of (by omega) (by decide) (by show _ ≤ 2; omega) (by show _ ≤ ct + 9; omega)) ?_
    rintro r G9 ⟨rfl, rfl⟩
    rw [bx_uu]
    obtain ⟨w0, σ0, ρ0, hst, hSP⟩ := SP.fl (g := fun x => dec A 6 (supA K g ct x)) (kd := nI 2) (ca := K 18 u) (sup := supA K g ct) (ns := ct) hR hi hF hq3 hqf' hne (hR.2.2.2.2.2 18 u (by decide) ⟨u1, u2⟩) (fun x => by
      unfold supA
      by_cases hx : x < ct
      · rw [if_pos hx]
        obtain ⟨y, y1, y2, y3⟩ := (hg x).1 (by omega)
        rw [y3, nI_clamp (by omega)]
        exact hR.2.2.2.2.2 18 y (by decide) ⟨y1, y2⟩
      · rw [if_neg hx]; exact Nat.zero_le _) (by omega) (fun x => rfl)
    refine k_X5_failAny_56.go C X (c_fail (d + 1) _ (A 1 i0) w0 σ0 ρ0 (some qf) hst) (rest := []) rfl rfl rfl (fun _ => ⟨_, _, _, rfl, hst, stC_in _⟩) (lb rfl) (Rq.of (by omega) (by decide) (by show _ ≤ 2; omega) (by show _ ≤ ct + 9; omega)) ?_
    rintro r G9 ⟨rfl, rfl⟩
    exact V_vret C X d_X5_failAny_59 (by show _ ≤ 2; omega) (by show _ ≤ ((ct + 9)); omega) ⟨rfl, by rw [eu]; exact hSP⟩
  | succ q ih =>
    intro j G1 hj e1
    subst e1
    refine b_X5_failAny_13.go C ⟨fun h => absurd (show ct ≤ j from (nI_leI (by omega) (by omega)).mp h) (by omega), fun h13 => ⟨trivial, ?_⟩⟩
    obtain ⟨u, u1, u2, u3⟩ := (hg j).1 (by omega)
    have eu : (g j).toNatClampNeg = u := by rw [u3, nI_clamp (by omega)]
    have R2 := hR.fresh hq3 (oar 4 ct (fun x => dec A 6 (supA K g j x)))
    refine b_X5_failAny_19.go C ⟨_, _, (up_ne h93).trans hq9, j, rfl, by omega, by omega, _, dec_n u3 u1 (by omega), _, _, R2.st ⟨u1, u2⟩, stC_ci _, fun b9 h9 => ?_, _, _, up_eq, j, rfl, by omega, by omega, _, nI_1 _, trivial, ?_⟩
    · have h9 : dec A 6 (K 18 u) = some b9 := h9
      obtain ⟨a1, a2, a3⟩ := hfl.at hR ⟨u1, u2⟩ (dec_s h9).1
      rw [a3] at h9
      cases h9
      exact ⟨_, _, R2.fl ⟨a1, a2⟩, by decide⟩
    · refine ih (j + 1) _ (by omega) ?_
      rw [bx_uu]
      refine congrArg (fun f => va_up G q3 (some (oar 4 ct f))) (funext (fun x => ?_))
      unfold supA
      by_cases e : x = j
      · subst e; rw [up_eq, if_pos (by omega), eu]; rfl
      · rw [up_ne e]
        by_cases e2 : x < j
        · rw [if_pos e2, if_pos (by omega)]
        · rw [if_neg e2, if_neg (by omega)]
def anyQ (K : MS) (i : Nat) : Rs := if nN K 14 i ≤ cntK K i (nI 5) then rsA (bypK K i (nI 5) (cntK K i (nI 5)) (nN K 14 i - 1)).toNatClampNeg else if nN K 12 i - nN K 14 i < cntK K i (nI 6) + cntK K i (nI 7) then (if cntK K i (nI 6) = 0 then rsO else rsF (nI 2) (K 18 (bypK K i (nI 6) (cntK K i (nI 6)) (cntK K i (nI 6) - 1)).toNatClampNeg) (cntK K i (nI 6) - 1) (supA K (bypK K i (nI 6) (cntK K i (nI 6))) (cntK K i (nI 6) - 1))) else rsN
theorem shF_el {K : MS} {u : Nat} (P : Int32 → Prop) (hu : P (nI u)) : ∀ (a : Nat) (g : Nat → Int32) (z : Nat), a ≤ z → (∀ j, j < z + 1 → j ≠ a → P (g j)) → ∀ j, j < z + 1 → P (shF K u a g j)
  | 0, g, z, ha, h, j, hj => by
    rw [shF]
    by_cases e : j = 0
    · subst e; simp only [upd, if_true]; exact hu
    · simp only [upd, if_neg e]; exact h j hj e
  | a + 1, g, z, ha, h, j, hj => by
    rw [shF]
    split
    · by_cases e : j = a + 1
      · subst e; simp only [upd, if_true]; exact hu
      · simp only [upd, if_neg e]; exact h j hj e
    · refine shF_el P hu a _ z (by omega) (fun j hj hja => ?_) j hj
      by_cases e : j = a + 1
      · subst e; simp only [upd, if_true]; exact h a (by omega) (by omega)
      · simp only [upd, if_neg e]; exact h j hj e
/-- each of the row is an input of i in the state v -/
theorem byp_el {K : MS} {i : Nat} {v : Int32} {ct : Nat} (P : Int32 → Prop) : ∀ (q j z : Nat) (g : Nat → Int32), (∀ x, j ≤ x → x < j + q → K 16 (iK K i x) = v → P (nI (iK K i x))) → (∀ x, x < z → P (g x)) → ∀ x, x < (bypF K i v ct q j z g).2 → P ((bypF K i v ct q j z g).1 x)
  | 0, _, z, g, _, h2, x, hx => h2 x hx
  | q + 1, j, z, g, h1, h2, x, hx => by
    rw [bypF] at hx ⊢
    by_cases e : K 16 (iK K i j) = v ∧ z < ct
    · rw [if_pos e] at hx ⊢
      refine byp_el P q (j + 1) (z + 1) _ (fun x a b => h1 x (by omega) (by omega)) (fun x hx => ?_) x hx
      exact shF_el P (h1 j (Nat.le_refl _) (by omega) e.1) z g z (Nat.le_refl _) (fun y hy hyz => h2 y (by omega)) x hx
    · rw [if_neg e] at hx ⊢
      exact byp_el P q (j + 1) z _ (fun x a b => h1 x (by omega) (by omega)) h2 x hx
set_option maxHeartbeats 1000000 in
theorem k_settleAny (d : Nat) (G : GH) (A : AS) (n F : Nat) (K : MS) (L : KL) (i0 w : Nat) (hR : KR Y G A n F K L) (hi : 1 ≤ i0 ∧ i0 ≤ n) (hup : upK K n i0) (hw : K 14 i0 = nI w) (hw1 : 1 ≤ w) (hw2 : w ≤ nN K 12 i0) (hfl : flK K n F) (hF : F + 1 ≤ 2000) : Cd l yX5_settleAny cX5_settleAny 5 none (d + 3) ((rsC (anyQ K i0))) ((rsC (anyQ K i0))) Y [.inr (.inr (some (A 1 i0)))] G (fun r G' => r = none ∧ SP Y G' A n F K L i0 (anyQ K i0)) := by
  refine Ct.of (ini := False) (by decide +kernel) False.elim rfl (Nat.le_of_ble_eq_true rfl) ?_
  intro p e s m args below meth c C X
  have hn := hR.2.2.1
  have h24 := hup.1.2.1
  have c5 := cnt_24 (v := nI 5) hup
  have c6 := cnt_24 (v := nI 6) hup
  have c7 := cnt_24 (v := nI 7) hup
  have ew : nN K 14 i0 = w := nN_of hw (by omega)
  have row : ∀ (v : Int32) (q9 : Nat) (ct : Nat), ct = cntK K i0 v → rwOk n (bypF K i0 v ct (nN K 12 i0) 0 0 (fun _ => 0)).2 (bypK K i0 v ct) → rwOk n ct (bypK K i0 v ct) := by
    intro v q9 ct e h
    rw [byp_z K i0 v ct _ _ _ _ (by rw [e, cntK]; exact Nat.le_refl _), ← cntK, ← e] at h
    exact h
  refine b_X5_settleAny_0.go C ⟨_, _, hR.st (by omega), stC_ci _, trivial, ?_⟩
  refine k_X5_settleAny_7.go C X (k_countOf (d + 2) G A n F K L i0 (nI 5) hR hi hup.1) (rest := []) rfl rfl rfl (fun h => absurd rfl h) (lb rfl) (Rq.of (by omega) (by decide) (by show _ ≤ rsC (anyQ K i0); omega) (by show _ ≤ rsC (anyQ K i0); omega)) ?_
  rintro r G9 ⟨h9, rfl⟩
  replace h9 := h9.symm
  subst h9
  refine b_X5_settleAny_10.go C ⟨trivial, ?_⟩
  refine k_X5_settleAny_14.go C X (k_countOf (d + 2) G A n F K L i0 (nI 6) hR hi hup.1) (rest := []) rfl rfl rfl (fun h => absurd rfl h) (lb rfl) (Rq.of (by omega) (by decide) (by show _ ≤ rsC (anyQ K i0); omega) (by show _ ≤ rsC (anyQ K i0); omega)) ?_
  rintro r G9 ⟨h9, rfl⟩
  replace h9 := h9.symm
  subst h9
  refine b_X5_settleAny_17.go C ⟨trivial, ?_⟩
  refine k_X5_settleAny_22.go C X (k_countOf (d + 2) G A n F K L i0 (nI 7) hR hi hup.1) (rest := [.inl (nI (cntK K i0 (nI 6)))]) rfl rfl rfl (fun h => absurd rfl h) (lb rfl) (Rq.of (by omega) (by decide) (by show _ ≤ rsC (anyQ K i0); omega) (by show _ ≤ rsC (anyQ K i0); omega)) ?_
  rintro r G9 ⟨h9, rfl⟩
  replace h9 := h9.symm
  subst h9
  refine b_X5_settleAny_25.go C ⟨_, nI_add _ _, fun h25 => ⟨trivial, ?_⟩, fun h25 => ⟨trivial, ?_⟩⟩
  rotate_left
  · have hv : w ≤ cntK K i0 (nI 5) := Nat.le_of_not_lt (fun q9 => absurd (nI_lt q9 (by omega)) (by have h9 : ¬ (nI (cntK K i0 (nI 5)) < K 14 i0) := h25; rw [hw] at h9; exact h9))
    have hc9 : rsC (anyQ K i0) = 64 := by rw [anyQ, if_pos (by omega)]; rfl
    refine b_X5_settleAny_33.go C ⟨trivial, ?_⟩
    refine k_X5_settleAny_37.go C X (k_byPlace (d + 2) G A n F K L i0 (cntK K i0 (nI 5)) (nI 5) hR hi hup.1 c5) (rest := [.inr (.inr (some (A 1 i0)))]) rfl rfl rfl (fun h => absurd rfl h) (lb rfl) (Rq.of (by omega) (by decide) (by show _ ≤ rsC (anyQ K i0); omega) (by show _ ≤ rsC (anyQ K i0); omega)) ?_
    rintro r G9 ⟨q9, hq9, rfl, rfl, hrw⟩
    replace hrw := row (nI 5) q9 _ rfl hrw
    obtain ⟨u, u1, u2, u3⟩ := (hrw (w - 1)).1 (by omega)
    have eu : (bypK K i0 (nI 5) (cntK K i0 (nI 5)) (w - 1)).toNatClampNeg = u := by rw [u3, nI_clamp (by omega)]
    have R2 := hR.fresh hq9 (oar 5 (cntK K i0 (nI 5)) (fun j => dec A 1 (bypK K i0 (nI 5) (cntK K i0 (nI 5)) j)))
    have hlt : u < i0 := by
      have hz : (bypF K i0 (nI 5) (cntK K i0 (nI 5)) (nN K 12 i0) 0 0 (fun _ => 0)).2 = cntK K i0 (nI 5) := byp_z K i0 (nI 5) _ _ _ _ _ (Nat.le_refl _)
      obtain ⟨x, hx1, hx2⟩ := byp_el (K := K) (i := i0) (v := nI 5) (ct := cntK K i0 (nI 5)) (fun v => ∃ x, x < nN K 12 i0 ∧ v = nI (iK K i0 x)) (nN K 12 i0) 0 0 (fun _ => 0) (fun x _ hx _ => ⟨x, by omega, rfl⟩) (fun x hx => by omega) (w - 1) (by rw [hz]; omega)
      have hx3 := (hup.1.2.2 x hx1).2.2
      have : u = iK K i0 x := (nI_eq (by omega) (by omega)).mp (u3.symm.trans hx2)
      rw [this]; exact hup.2.2 x hx1
    rw [show sgK K i0 4 = nI w from hw]
    refine b_X5_settleAny_40.go C ⟨_, pk_sub (by omega), _, _, up_eq, w - 1, rfl, by omega, by omega, _, dec_n u3 u1 (by omega), trivial, ?_⟩
    refine k_X5_settleAny_44.go C X (c_endAs (d + 2) _ (A 1 i0) (A 1 u) _ _ _ _ _ _ (hR.ne1 hi ⟨u1, u2⟩ (by omega)) (R2.st hi) (R2.st ⟨u1, u2⟩)) (rest := []) rfl rfl rfl (fun _ => ⟨_, _, _, rfl, R2.st (by omega), stC_in _⟩) (lb rfl) (Rq.of (by omega) (by decide) (by show _ ≤ rsC (anyQ K i0); omega) (by show _ ≤ rsC (anyQ K i0); omega)) ?_
    rintro r G9 ⟨rfl, rfl⟩
    refine b_X5_settleAny_47.go C ⟨trivial, ?_⟩
    exact V_vret C X d_X5_settleAny_84 (by show _ ≤ ((rsC (anyQ K i0))); omega) (by show _ ≤ ((rsC (anyQ K i0))); omega) ⟨rfl, by rw [anyQ, if_pos (by omega), ew, eu]; exact SP.as R2 hi ⟨u1, u2⟩⟩
  have hv : cntK K i0 (nI 5) < w := Nat.lt_of_not_le (fun q9 => absurd (by have h9 : (nI (cntK K i0 (nI 5)) < K 14 i0) := h25; rw [hw] at h9; exact h9) (nI_nlt q9 (by omega)))
  refine b_X5_settleAny_50.go C ⟨_, _, hR.st (by omega), stC_ci _, nN K 12 i0, Or.inl ⟨5, _, by decide, hR.inp (by omega)⟩, _, (congrArg (nI (nN K 12 i0) - ·) hw).trans (pk_sub (by omega)), fun h50 => ⟨trivial, ?_⟩, fun h50 => ⟨trivial, ?_⟩⟩
  · have hl : cntK K i0 (nI 6) + (cntK K i0 (nI 7)) ≤ (nN K 12 i0) - w := (nI_leI (by omega) (by omega)).mp h50
    exact V_vret C X d_X5_settleAny_84 (by show _ ≤ ((rsC (anyQ K i0))); omega) (by show _ ≤ ((rsC (anyQ K i0))); omega) ⟨rfl, by rw [anyQ, if_neg (by omega), if_neg (by omega)]; exact SP.no hR i0⟩
  have hl : (nN K 12 i0) - w < cntK K i0 (nI 6) + (cntK K i0 (nI 7)) := Nat.lt_of_not_le (fun q9 => absurd (nI_le q9 (by omega)) h50)
  refine b_X5_settleAny_62.go C ⟨fun h62 => ⟨trivial, ?_⟩, fun h62 => ⟨trivial, ?_⟩⟩
  rotate_left
  · have hz : cntK K i0 (nI 6) = 0 := (nI_eq (by omega) (by omega)).mp (by have h9 : (nI (cntK K i0 (nI 6)) = 0) := h62; rw [nI_0.symm] at h9; exact h9)
    have hz : cntK K i0 (nI 6) = 0 := by omega
    have hc9 : rsC (anyQ K i0) = 64 := by rw [anyQ, if_neg (by omega), if_pos (by omega), if_pos hz]; rfl
    refine b_X5_settleAny_66.go C ⟨trivial, ?_⟩
    refine k_X5_settleAny_67.go C X (c_dismiss (d + 2) G (A 1 i0) _ _ _ (hR.st hi)) (rest := []) rfl rfl rfl (fun _ => ⟨_, _, _, rfl, hR.st (by omega), stC_in _⟩) (lb rfl) (Rq.of (by omega) (by decide) (by show _ ≤ rsC (anyQ K i0); omega) (by show _ ≤ rsC (anyQ K i0); omega)) ?_
    rintro r G9 ⟨rfl, rfl⟩
    refine b_X5_settleAny_70.go C ⟨trivial, ?_⟩
    exact V_vret C X d_X5_settleAny_84 (by show _ ≤ ((rsC (anyQ K i0))); omega) (by show _ ≤ ((rsC (anyQ K i0))); omega) ⟨rfl, by rw [anyQ, if_neg (by omega), if_pos (by omega), if_pos hz]; exact ⟨A, hR.off hi, fun _ _ _ => rfl⟩⟩
  have hz : ¬ cntK K i0 (nI 6) = 0 := fun q9 => absurd (congrArg nI q9) (by have h9 : ¬ (nI (cntK K i0 (nI 6)) = 0) := h62; rw [nI_0.symm] at h9; exact h9)
  have hz : ¬ cntK K i0 (nI 6) = 0 := by omega
  have hc9 : rsC (anyQ K i0) = 64 := by rw [anyQ, if_neg (by omega), if_pos (by omega), if_neg hz]; rfl
  refine b_X5_settleAny_73.go C ⟨trivial, ?_⟩
  refine k_X5_settleAny_78.go C X (k_byPlace (d + 2) G A n F K L i0 (cntK K i0 (nI 6)) (nI 6) hR hi hup.1 c6) (rest := [.inr (.inr (some (A 1 i0)))]) rfl rfl rfl (fun h => absurd rfl h) (lb rfl) (Rq.of (by omega) (by decide) (by show _ ≤ rsC (anyQ K i0); omega) (by show _ ≤ rsC (anyQ K i0); omega)) ?_
  rintro r G9 ⟨q9, hq9, rfl, rfl, hrw⟩
  replace hrw := row (nI 6) q9 _ rfl hrw
  have R2 := hR.fresh hq9 (oar 5 (cntK K i0 (nI 6)) (fun j => dec A 1 (bypK K i0 (nI 6) (cntK K i0 (nI 6)) j)))
  obtain ⟨c, hc⟩ : ∃ c, cntK K i0 (nI 6) = c + 1 := ⟨cntK K i0 (nI 6) - 1, by omega⟩
  have kf := k_failAny (l := l) d _ A n F K L i0 q9 c (bypK K i0 (nI 6) (cntK K i0 (nI 6))) R2 hi (by rw [up_eq, hc]) (by omega) (by rw [← hc]; exact hrw) hfl hF
  refine k_X5_settleAny_81.go C X kf (rest := []) rfl rfl rfl (fun h => absurd rfl h) (lb rfl) (Rq.of (by omega) (by decide) (by show _ ≤ rsC (anyQ K i0); omega) (by show _ ≤ rsC (anyQ K i0); omega)) ?_
  rintro r G9 ⟨rfl, hSP⟩
  exact V_vret C X d_X5_settleAny_84 (by show _ ≤ ((rsC (anyQ K i0))); omega) (by show _ ≤ ((rsC (anyQ K i0))); omega) ⟨rfl, by rw [anyQ, if_neg (by omega), if_pos (by omega), if_neg hz]; rw [show cntK K i0 (nI 6) - 1 = c by omega]; exact hSP⟩
end CLF
