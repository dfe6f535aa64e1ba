/-! the class: value, failed; works -/
section CO
section MKW
variable {Y : YT} {G H : GH} {A : AS} {n F : Nat} {K : MS} {L : KL}
def mkKw (K : MS) (t : Nat) (σ : Nat → Int32) (ls : List Nat) (tm : Nat) : MS := stgK K t σ ls.length (elN ls) tm
theorem KR.mkW (h : KR Y G A n F K L) (hn : n ≤ 200) {q qi qh qp qe : Nat} (ls : List Nat) (lh : Nat → Int64) (tm : Nat) (htm : tm ≤ 5) (hls : ∀ u ∈ ls, 1 ≤ u ∧ u ≤ n) (hl : ls.length ≤ 24) (hq : G q = none) (hqi : G qi = none) (hqh : G qh = none) (hqp : G qp = none) (hqe : G qe = none) (d1 : q ≠ qi) (d2 : q ≠ qh) (d3 : q ≠ qp) (d4 : q ≠ qe) (d5 : qi ≠ qh) (d6 : qi ≠ qp) (d7 : qi ≠ qe) (d8 : qh ≠ qp) (d9 : qh ≠ qe) (d0 : qp ≠ qe) (σ : Nat → Int32) (ρ : Nat → Option Nat) (hw : decide (nI 1 ≤ σ 1 ∧ σ 1 ≤ nI 4) = true) (hold : ∀ a, G a ≠ none → H a = G a) (g1 : H q = some (stC true σ ρ)) (g2 : H qi = some (inA A ls)) (g3 : H qh = some (.inl (1, 4, .inr (.inl lh)))) (g4 : H qp = some (.inl (0, tm, .inl (fun _ => 0)))) (g5 : H qe = some (oar 4 tm (fun _ => none))) (r2 : ρ 2 = some qi) (r5 : ρ 5 = some qh) (r8 : ρ 8 = none) (r21 : ρ 21 = none) (r24 : ρ 24 = some qp) (r25 : ρ 25 = some qe) : KR Y H (nwA A (n + 1) (Q3 q qi qh qp qe)) (n + 1) F (mkKw K (n + 1) σ ls tm) (upLt L (n + 1) lh) := by
  refine h.newS (G' := H) (w := true) (σ := σ) (ρ := ρ) (N := ls.length) (tm := tm) (inp := elN ls) (lh := lh) (by omega) (Q3 q qi qh qp qe) (by omega) (by omega) (el_le2 hls (by omega)) hold (fun k hk => ?_) (fun k k' hk hk' e => ?_) g1 g2 g3 (fun _ => ⟨g4, g5⟩) hw r2 r5 r8 r21 r24 r25
  · rcases hk with rfl | rfl | rfl | ⟨-, rfl | rfl⟩
    · exact hq
    · exact hqi
    · exact hqh
    · exact hqp
    · exact hqe
  · rcases hk with rfl | rfl | rfl | ⟨-, rfl | rfl⟩ <;> rcases hk' with rfl | rfl | rfl | ⟨-, rfl | rfl⟩ <;> first | rfl | (exact absurd e d1) | (exact absurd e d2) | (exact absurd e d3) | (exact absurd e d4) | (exact absurd e d5) | (exact absurd e d6) | (exact absurd e d7) | (exact absurd e d8) | (exact absurd e d9) | (exact absurd e d0) | (exact absurd e.symm d1) | (exact absurd e.symm d2) | (exact absurd e.symm d3) | (exact absurd e.symm d4) | (exact absurd e.symm d5) | (exact absurd e.symm d6) | (exact absurd e.symm d7) | (exact absurd e.symm d8) | (exact absurd e.symm d9) | (exact absurd e.symm d0)
theorem inK_stg {t tm : Nat} {σ : Nat → Int32} {ls : List Nat} (hl : ls.length ≤ 24) (ht : t < 1000) (hls : ∀ u ∈ ls, 1 ≤ u ∧ u ≤ n) (hn : n ≤ 201) : inK (stgK K t σ ls.length (elN ls) tm) (n + 1) t := by
  have e12 : stgK K t σ ls.length (elN ls) tm 12 t = nI ls.length := by rw [stg_s ht (by decide) (by decide), if_pos rfl]
  have e1 : nN (stgK K t σ ls.length (elN ls) tm) 12 t = ls.length := nN_of e12 (by omega)
  refine ⟨by rw [e1]; exact e12, by omega, fun j hj => ?_⟩
  rw [e1] at hj
  have hb := hls _ (List.getElem_mem hj)
  have er : stgK K t σ ls.length (elN ls) tm (1000 + t) j = nI ls[j] := by rw [stg_r, elN, List.getElem?_eq_getElem hj]; rfl
  have ei : iK (stgK K t σ ls.length (elN ls) tm) t j = ls[j] := by rw [iK]; exact nN_of er (by omega)
  rw [ei]
  exact ⟨er, hb.1, by omega⟩
theorem LOk_n {a : Nat} (h : LOk K n a) : LOk K (n + 1) a := ⟨h.1, h.2.1, h.2.2.1, h.2.2.2.1, fun u hu => ⟨(h.2.2.2.2.1 u hu).1, Nat.le_succ_of_le (h.2.2.2.2.1 u hu).2⟩, h.2.2.2.2.2⟩
theorem stg_ls {t N tm : Nat} {σ inp : Nat → Int32} (ht : t < 1000) : ∀ f j, isLs f → stgK K t σ N inp tm f j = K f j := fun f j h => stg_o (by unfold isLs at h; omega) (by unfold isLs at h; omega) (by unfold isLs at h; omega) (by unfold isLs at h; omega)
end MKW
variable {l : Launch} {Y : YT}
/-- the new work n + 1, its fields at their beginning -/
def begW (n : Nat) (form mi kind am : Int32) : Nat → Int32 := wkS (stS (fun _ => 0) (nI (n + 1)) form kind am) mi
set_option maxHeartbeats 2000000 in
theorem k_value (d : Nat) (G : GH) (A : AS) (n F : Nat) (K : MS) (L : KL) (v : Int32) (I : MS → Nat → KL → Prop) (E : MS × Nat) (hR : KR Y G A n F K L) (hm : mdK K n n) (hO : n < 200 → OpOk n (gainK (mkK K (n + 1) (beg n (nI 0) (nI 0) (nI 0)) []) (n + 1) v) F (upLt L (n + 1) (hgN L (n + 1) [])) I E) : Cd l yX8_value cX8_value 3 (some .int) (d + 11) (110 + (PhK K F - PhK E.1 E.2)) (110 + (PhK K F - PhK E.1 E.2)) Y [.inr (.inr (some (A 0 0))), .inl v] G (fun r G' => (n = 200 ∧ r = some (.inl (-2)) ∧ KR Y G' A n F K L) ∨ (n < 200 ∧ r = some (.inl (nI (n + 1))) ∧ ∃ A', KR Y G' A' (n + 1) E.2 E.1 (upLt L (n + 1) (hgN L (n + 1) [])) ∧ A' 0 0 = A 0 0)) := by
  refine Ct.of (ini := False) (by decide +kernel) False.elim rfl (Nat.le_of_ble_eq_true rfl) ?_
  intro p e s m args below meth c C X
  have hn := hm.2.2.1
  refine b_X8_value_0.go C ⟨(by show _ ≤ 110 + (PhK K F - PhK E.1 E.2); omega), (by show _ ≤ 110 + (PhK K F - PhK E.1 E.2); omega), fun q hq => ?_⟩
  have R1 := hR.fresh hq (stC false (fun _ => 0) (fun _ => none))
  refine ⟨_, R1.mn, nI (n + 1), (congrArg (· + nI 1) hm.1).trans (nI_1 _), trivial, ?_⟩
  refine k_X8_value_11.go C X (k_inputsOf0 (d + 10) _ A) (rest := [.inl (nI 0), .inl (nI (n + 1)), .inr (.inr (some q)), .inr (.inr (some q))]) rfl rfl rfl (fun h => absurd rfl h) (lb rfl) (Rq.of (by omega) (by decide) (by show _ ≤ 110 + (PhK K F - PhK E.1 E.2); omega) (by show _ ≤ 110 + (PhK K F - PhK E.1 E.2); omega)) ?_
  rintro r G9 ⟨qi, hqi, rfl, rfl⟩
  have d1 : q ≠ qi := ne_none up_eq hqi
  have hqi' : G qi = none := (up_ne (Ne.symm d1)).symm.trans hqi
  have R2 := R1.fresh hqi (inA A [])
  refine b_X8_value_14.go C ⟨trivial, ?_⟩
  refine k_X8_value_16.go C X (k_StageInit d _ A n F K L q qi (n + 1) false (fun _ => 0) (fun _ => none) (nI 0) (nI 0) (nI 0) [] R2 ((up_ne d1).trans up_eq) (oth_none hR hq) up_eq (fun u hu => by cases hu) (by simp) (by omega)) (rest := [.inr (.inr (some q))]) rfl rfl rfl (fun _ => ⟨_, _, _, rfl, (up_ne d1).trans up_eq, by decide⟩) (lb rfl) (Rq.of (by omega) (by decide) (by show _ ≤ 110 + (PhK K F - PhK E.1 E.2); omega) (by show _ ≤ 110 + (PhK K F - PhK E.1 E.2); omega)) ?_
  rintro r G8 ⟨rfl, qh, hqh, rfl⟩
  have d3 : qi ≠ qh := ne_none up_eq hqh
  have hqh1 := (up_ne (Ne.symm d3)).symm.trans hqh
  have d2 : q ≠ qh := ne_none up_eq hqh1
  have hqh' : G qh = none := (up_ne (Ne.symm d2)).symm.trans hqh1
  obtain ⟨R3, hold⟩ := hR.mkS hn (c0 := some (stC false (fun _ => 0) (fun _ => none))) [] (hgN L (n + 1) []) (fun u hu => by cases hu) (by simp) hq hqi' hqh' d1 d2 d3 (beg n (nI 0) (nI 0) (nI 0)) (show decide (nI 1 ≤ nI 0 ∧ nI 0 ≤ nI 4) = false by decide +kernel)
  have eA0 : nwA A (n + 1) (Q3 q qi qh 0 0) 0 0 = A 0 0 := nwA_n (by omega)
  have eA1 : nwA A (n + 1) (Q3 q qi qh 0 0) 1 (n + 1) = q := nwA_s (Or.inl rfl)
  have hT : 1 ≤ n + 1 ∧ n + 1 ≤ n + 1 := ⟨by omega, Nat.le_refl _⟩
  have e0 : mkK K (n + 1) (beg n (nI 0) (nI 0) (nI 0)) [] 0 0 = nI n := (stg_o (by omega) (by omega) (by omega) (by omega)).trans hm.1
  have e10 : mkK K (n + 1) (beg n (nI 0) (nI 0) (nI 0)) [] 10 (n + 1) = nI (n + 1) := by unfold mkK; rw [stg_s (by omega) (by decide) (by decide), if_neg (by decide), if_neg (by decide), if_neg (by decide)]; rfl
  have eph : PhK (mkK K (n + 1) (beg n (nI 0) (nI 0) (nI 0)) []) F = PhK K F := PhK_stg (by omega)
  generalize hA1 : nwA A (n + 1) (Q3 q qi qh 0 0) = A1 at *
  have hst := R3.st hT
  rw [eA1] at hst
  have R4 := R3.gain hT v
  rw [eA1] at R4
  refine b_X8_value_19.go C ⟨trivial, ?_⟩
  refine k_X8_value_22.go C X (c_gain (d + 10) _ q _ _ _ v hst) (rest := []) rfl rfl rfl (fun _ => ⟨_, _, _, rfl, hst, stC_in _⟩) (lb rfl) (Rq.of (by omega) (by decide) (by show _ ≤ 110 + (PhK K F - PhK E.1 E.2); omega) (by show _ ≤ 110 + (PhK K F - PhK E.1 E.2); omega)) ?_
  rintro r G7 ⟨rfl, rfl⟩
  refine b_X8_value_25.go C ⟨trivial, ?_⟩
  by_cases h200 : n = 200
  · have ko := k_openF (l := l) d _ A1 (n + 1) F _ _ q R4 (e0.trans (by rw [h200]))
    rw [eA0] at ko
    refine k_X8_value_27.go C X ko (rest := []) rfl rfl rfl (fun _ => ⟨_, _, _, rfl, by have := R4.mn; rw [eA0] at this; exact this, by decide⟩) (lb rfl) (Rq.of (by omega) (by decide) (by show _ ≤ 110 + (PhK K F - PhK E.1 E.2); omega) (by show _ ≤ 110 + (PhK K F - PhK E.1 E.2); omega)) ?_
    rintro r G7 ⟨rfl, h7⟩
    replace h7 := h7.symm
    subst h7
    exact V_iret C X d_X8_value_30 (by show _ ≤ 110 + (PhK K F - PhK E.1 E.2); omega) (by show _ ≤ 110 + (PhK K F - PhK E.1 E.2); omega) (Or.inl ⟨h200, rfl, hR.hold (fun a ha => (up_ne (fun z => ha (by rw [z]; exact hq))).trans (hold a ha))⟩)
  · obtain ⟨o1, o2, o3, o4, o5, o6⟩ := hO (by omega)
    have ko := k_open (l := l) d _ A1 F (gainK (mkK K (n + 1) (beg n (nI 0) (nI 0) (nI 0)) []) (n + 1) v) _ n I o1 R4 e0 o2 (by omega) e10 o3 o4 E o5 o6
    have eph2 : PhK (gainK (mkK K (n + 1) (beg n (nI 0) (nI 0) (nI 0)) []) (n + 1) v) F = PhK K F := by unfold gainK; rw [PhK_up (by decide) (by decide) (nls (by decide)), PhK_up (by decide) (by decide) (nls (by decide))]; exact eph
    rw [eA0, eA1, eph2] at ko
    refine k_X8_value_27.go C X ko (rest := []) rfl rfl rfl (fun _ => ⟨_, _, _, rfl, by have := R4.mn; rw [eA0] at this; exact this, by decide⟩) (lb rfl) (Rq.of (by omega) (by decide) (by show _ ≤ 110 + (PhK K F - PhK E.1 E.2); omega) (by show _ ≤ 110 + (PhK K F - PhK E.1 E.2); omega)) ?_
    rintro r G7 ⟨rfl, A7, R7, hA7⟩
    exact V_iret C X d_X8_value_30 (by show _ ≤ 110 + (PhK K F - PhK E.1 E.2); omega) (by show _ ≤ 110 + (PhK K F - PhK E.1 E.2); omega) (Or.inr ⟨by omega, rfl, A7, R7, hA7.kt.trans eA0⟩)
set_option maxHeartbeats 2000000 in
theorem k_failed (d : Nat) (G : GH) (A : AS) (n F : Nat) (K : MS) (L : KL) (v : Int32) (I : MS → Nat → KL → Prop) (E : MS × Nat) (hR : KR Y G A n F K L) (hm : mdK K n n) (hF : F + 1 ≤ 2000) (hO : (nI 0 ≤ v ∧ v ≤ nI 15) → n < 200 → OpOk n (resK (mkK K (n + 1) (beg n (nI 0) (nI 0) (nI 0)) []) (n + 1) F (rsF v 0 0 (fun _ => 0))) (F + 1) (upLt L (n + 1) (hgN L (n + 1) [])) I E) : Cd l yX8_failed cX8_failed 3 (some .int) (d + 11) (110 + (PhK K F - PhK E.1 E.2)) (110 + (PhK K F - PhK E.1 E.2)) Y [.inr (.inr (some (A 0 0))), .inl v] G (fun r G' => (¬ (nI 0 ≤ v ∧ v ≤ nI 15) ∧ r = some (.inl (-1)) ∧ KR Y G' A n F K L) ∨ ((nI 0 ≤ v ∧ v ≤ nI 15) ∧ n = 200 ∧ r = some (.inl (-2)) ∧ KR Y G' A n F K L) ∨ ((nI 0 ≤ v ∧ v ≤ nI 15) ∧ n < 200 ∧ r = some (.inl (nI (n + 1))) ∧ ∃ A', KR Y G' A' (n + 1) E.2 E.1 (upLt L (n + 1) (hgN L (n + 1) [])) ∧ A' 0 0 = A 0 0)) := by
  refine Ct.of (ini := False) (by decide +kernel) False.elim rfl (Nat.le_of_ble_eq_true rfl) ?_
  intro p e s m args below meth c C X
  refine b_X8_failed_0.go C ⟨trivial, ?_⟩
  refine k_X8_failed_4.go C X (c_isWithin (d + 10) G v (nI 0) (nI 15)) (rest := []) rfl rfl rfl (fun h => absurd rfl h) (lb rfl) (Rq.of (by omega) (by decide) (Nat.zero_le _) (Nat.zero_le _)) ?_
  rintro r G9 ⟨h9, rfl⟩
  replace h9 := h9.symm
  subst h9
  refine b_X8_failed_7.go C ⟨fun h7 => ⟨trivial, ?_⟩, fun h7 => ⟨trivial, ?_⟩⟩
  rotate_left
  · refine b_X8_failed_10.go C ⟨trivial, ?_⟩
    exact V_iret C X d_X8_failed_11 (Nat.zero_le _) (Nat.zero_le _) (Or.inl ⟨wi_0 h7, rfl, hR⟩)
  have hok := wi_1 h7
  have hn := hm.2.2.1
  refine b_X8_failed_12.go C ⟨(by show _ ≤ 110 + (PhK K F - PhK E.1 E.2); omega), (by show _ ≤ 110 + (PhK K F - PhK E.1 E.2); omega), fun q hq => ?_⟩
  have R1 := hR.fresh hq (stC false (fun _ => 0) (fun _ => none))
  refine ⟨_, R1.mn, nI (n + 1), (congrArg (· + nI 1) hm.1).trans (nI_1 _), trivial, ?_⟩
  refine k_X8_failed_23.go C X (k_inputsOf0 (d + 10) _ A) (rest := [.inl (nI 0), .inl (nI (n + 1)), .inr (.inr (some q)), .inr (.inr (some q))]) rfl rfl rfl (fun h => absurd rfl h) (lb rfl) (Rq.of (by omega) (by decide) (by show _ ≤ 110 + (PhK K F - PhK E.1 E.2); omega) (by show _ ≤ 110 + (PhK K F - PhK E.1 E.2); omega)) ?_
  rintro r G9 ⟨qi, hqi, rfl, rfl⟩
  have d1 : q ≠ qi := ne_none up_eq hqi
  have hqi' : G qi = none := (up_ne (Ne.symm d1)).symm.trans hqi
  have R2 := R1.fresh hqi (inA A [])
  refine b_X8_failed_26.go C ⟨trivial, ?_⟩
  refine k_X8_failed_28.go C X (k_StageInit d _ A n F K L q qi (n + 1) false (fun _ => 0) (fun _ => none) (nI 0) (nI 0) (nI 0) [] R2 ((up_ne d1).trans up_eq) (oth_none hR hq) up_eq (fun u hu => by cases hu) (by simp) (by omega)) (rest := [.inr (.inr (some q))]) rfl rfl rfl (fun _ => ⟨_, _, _, rfl, (up_ne d1).trans up_eq, by decide⟩) (lb rfl) (Rq.of (by omega) (by decide) (by show _ ≤ 110 + (PhK K F - PhK E.1 E.2); omega) (by show _ ≤ 110 + (PhK K F - PhK E.1 E.2); omega)) ?_
  rintro r G8 ⟨rfl, qh, hqh, rfl⟩
  have d3 : qi ≠ qh := ne_none up_eq hqh
  have hqh1 := (up_ne (Ne.symm d3)).symm.trans hqh
  have d2 : q ≠ qh := ne_none up_eq hqh1
  have hqh' : G qh = none := (up_ne (Ne.symm d2)).symm.trans hqh1
  obtain ⟨R3, hold⟩ := hR.mkS hn (c0 := some (stC false (fun _ => 0) (fun _ => none))) [] (hgN L (n + 1) []) (fun u hu => by cases hu) (by simp) hq hqi' hqh' d1 d2 d3 (beg n (nI 0) (nI 0) (nI 0)) (show decide (nI 1 ≤ nI 0 ∧ nI 0 ≤ nI 4) = false by decide +kernel)
  have eA0 : nwA A (n + 1) (Q3 q qi qh 0 0) 0 0 = A 0 0 := nwA_n (by omega)
  have eA1 : nwA A (n + 1) (Q3 q qi qh 0 0) 1 (n + 1) = q := nwA_s (Or.inl rfl)
  have hT : 1 ≤ n + 1 ∧ n + 1 ≤ n + 1 := ⟨by omega, Nat.le_refl _⟩
  have e0 : mkK K (n + 1) (beg n (nI 0) (nI 0) (nI 0)) [] 0 0 = nI n := (stg_o (by omega) (by omega) (by omega) (by omega)).trans hm.1
  have e10 : mkK K (n + 1) (beg n (nI 0) (nI 0) (nI 0)) [] 10 (n + 1) = nI (n + 1) := by unfold mkK; rw [stg_s (by omega) (by decide) (by decide), if_neg (by decide), if_neg (by decide), if_neg (by decide)]; rfl
  have eph : PhK (mkK K (n + 1) (beg n (nI 0) (nI 0) (nI 0)) []) F = PhK K F := PhK_stg (by omega)
  generalize hA1 : nwA A (n + 1) (Q3 q qi qh 0 0) = A1 at *
  have hst := R3.st hT
  rw [eA1] at hst
  refine b_X8_failed_31.go C ⟨(by show _ ≤ 110 + (PhK K F - PhK E.1 E.2); omega), (by show _ ≤ 110 + (PhK K F - PhK E.1 E.2); omega), fun qf hqf => ?_⟩
  have R4 := R3.fresh hqf (fC 0 0 none none 0 0 0 0 none)
  have hst4 := R4.st hT
  rw [eA1] at hst4
  have hqqf : q ≠ qf := ne_none hst hqf
  refine ⟨_, _, hst4, stC_ci _, trivial, ?_⟩
  rw [show sgK (mkK K (n + 1) (beg n (nI 0) (nI 0) (nI 0)) []) (n + 1) 0 = nI (n + 1) from e10]
  refine k_X8_failed_42.go C X (c_Failure2 (d + 8) _ qf v (nI (n + 1)) up_eq) (rest := [.inr (.inr (some qf)), .inr (.inr (some q))]) rfl rfl rfl (fun _ => ⟨_, _, _, rfl, up_eq, by decide⟩) (lb rfl) (Rq.of (by omega) (by decide) (by show _ ≤ 110 + (PhK K F - PhK E.1 E.2); omega) (by show _ ≤ 110 + (PhK K F - PhK E.1 E.2); omega)) ?_
  rintro r G7 ⟨rfl, qs, hqs, rfl⟩
  have hne : qf ≠ qs := ne_none up_eq hqs
  have hqs' := (up_ne (Ne.symm hne)).symm.trans hqs
  rw [up_comm hne, bx_uu]
  obtain ⟨w1, σ1, ρ1, hst0, A2, hSP, hX⟩ := SP.fl (g := fun _ => none) (kd := v) (ca := 0) (sup := fun _ => 0) (ns := 0) R3 hT hF hqs' hqf (Ne.symm hne) (Nat.zero_le _) (fun _ => Nat.zero_le _) (by omega) (fun _ => (dec_0 rfl).symm)
  rw [dec_0 rfl, eA1, e10] at hst0 hSP
  refine k_X8_failed_45.go C X (c_fail (d + 10) _ q w1 σ1 ρ1 (some qf) hst0) (rest := []) rfl rfl rfl (fun _ => ⟨_, _, _, rfl, hst0, stC_in _⟩) (lb rfl) (Rq.of (by omega) (by decide) (by show _ ≤ 110 + (PhK K F - PhK E.1 E.2); omega) (by show _ ≤ 110 + (PhK K F - PhK E.1 E.2); omega)) ?_
  rintro r G7 ⟨rfl, rfl⟩
  have hA2 := hX.ak
  have R5 : KR Y _ A2 (n + 1) (F + 1) (resK (mkK K (n + 1) (beg n (nI 0) (nI 0) (nI 0)) []) (n + 1) F (rsF v 0 0 (fun _ => 0))) (upLt L (n + 1) (hgN L (n + 1) [])) := hSP
  have eB0 : A2 0 0 = A 0 0 := hA2.kt.trans eA0
  have eB1 : A2 1 (n + 1) = q := (hA2.sg _).trans eA1
  have e0' : (resK (mkK K (n + 1) (beg n (nI 0) (nI 0) (nI 0)) []) (n + 1) F (rsF v 0 0 (fun _ => 0))) 0 0 = nI n := (res_o (by decide) (by decide) (by decide) (by decide) (by decide)).trans e0
  have e10' : (resK (mkK K (n + 1) (beg n (nI 0) (nI 0) (nI 0)) []) (n + 1) F (rsF v 0 0 (fun _ => 0))) 10 (n + 1) = nI (n + 1) := (res_o (by decide) (by decide) (by decide) (by decide) (by decide)).trans e10
  refine b_X8_failed_48.go C ⟨trivial, ?_⟩
  by_cases h200 : n = 200
  · have ko := k_openF (l := l) d _ A2 (n + 1) (F + 1) _ _ q R5 (e0'.trans (by rw [h200]))
    rw [eB0] at ko
    refine k_X8_failed_50.go C X ko (rest := []) rfl rfl rfl (fun _ => ⟨_, _, _, rfl, by have := R5.mn; rw [eB0] at this; exact this, by decide⟩) (lb rfl) (Rq.of (by omega) (by decide) (by show _ ≤ 110 + (PhK K F - PhK E.1 E.2); omega) (by show _ ≤ 110 + (PhK K F - PhK E.1 E.2); omega)) ?_
    rintro r G7 ⟨rfl, h7⟩
    replace h7 := h7.symm
    subst h7
    refine V_iret C X d_X8_failed_53 (by show _ ≤ 110 + (PhK K F - PhK E.1 E.2); omega) (by show _ ≤ 110 + (PhK K F - PhK E.1 E.2); omega) (Or.inr (Or.inl ⟨hok, h200, rfl, hR.hold (fun a ha => ?_)⟩))
    have h9 := hold a ha
    rw [up_ne (fun z => ha (by rw [z]; exact hq)), up_ne (fun z => ?_), up_ne (fun z => ?_), h9]
    · rw [z] at h9; exact ha (by rw [z]; exact h9.symm.trans hqs')
    · rw [z] at h9; exact ha (by rw [z]; exact h9.symm.trans hqf)
  · obtain ⟨o1, o2, o3, o4, o5, o6⟩ := hO hok (by omega)
    have ko := k_open (l := l) d _ A2 (F + 1) (resK (mkK K (n + 1) (beg n (nI 0) (nI 0) (nI 0)) []) (n + 1) F (rsF v 0 0 (fun _ => 0))) _ n I o1 R5 e0' o2 (by omega) e10' o3 o4 E o5 o6
    have eph2 : PhK (resK (mkK K (n + 1) (beg n (nI 0) (nI 0) (nI 0)) []) (n + 1) F (rsF v 0 0 (fun _ => 0))) (F + 1) ≤ PhK K F := by
      have := PhK_res (K := mkK K (n + 1) (beg n (nI 0) (nI 0) (nI 0)) []) (i := n + 1) (F := F) (r := rsF v 0 0 (fun _ => 0))
      rw [eph] at this
      exact this
    rw [eB0, eB1] at ko
    refine k_X8_failed_50.go C X ko (rest := []) rfl rfl rfl (fun _ => ⟨_, _, _, rfl, by have := R5.mn; rw [eB0] at this; exact this, by decide⟩) (lb rfl) (Rq.of (by omega) (by decide) (by show _ ≤ 110 + (PhK K F - PhK E.1 E.2); omega) (by show _ ≤ 110 + (PhK K F - PhK E.1 E.2); omega)) ?_
    rintro r G7 ⟨rfl, A7, R7, hA7⟩
    exact V_iret C X d_X8_failed_53 (by show _ ≤ 110 + (PhK K F - PhK E.1 E.2); omega) (by show _ ≤ 110 + (PhK K F - PhK E.1 E.2); omega) (Or.inr (Or.inr ⟨hok, by omega, rfl, A7, R7, hA7.kt.trans eB0⟩))
end CO
