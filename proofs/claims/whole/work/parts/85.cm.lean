/-! the class: the makings of stages that are no works -/
section CM
theorem kx_then_37 : CSx RX8 cX8_then False 37 5 yX8_inputsOf_ cX8_inputsOf_ 2 (some (FieldType.array (FieldType.object "PromiseKitchen$Stage"))) 1 [] := CS_staticx 1 (show decode cX8_then 37 = .ok (.invokestatic 130, 3) by decide +kernel) q_734 q_732 q_733 q_79 (show yOk yX8_inputsOf_ 1 from ⟨by decide +kernel, by decide +kernel, by decide +kernel⟩)
theorem kx_both_52 : CSx RX8 cX8_both False 52 6 yX8_inputsOf__ cX8_inputsOf__ 3 (some (FieldType.array (FieldType.object "PromiseKitchen$Stage"))) 2 [] := CS_staticx 2 (show decode cX8_both 52 = .ok (.invokestatic 133, 3) by decide +kernel) q_741 q_739 q_740 q_79 (show yOk yX8_inputsOf__ 2 from ⟨by decide +kernel, by decide +kernel, by decide +kernel⟩)
theorem kx_first_40 : CSx RX8 cX8_first False 40 5 yX8_inputsOf__ cX8_inputsOf__ 3 (some (FieldType.array (FieldType.object "PromiseKitchen$Stage"))) 2 [] := CS_staticx 2 (show decode cX8_first 40 = .ok (.invokestatic 133, 3) by decide +kernel) q_741 q_739 q_740 q_79 (show yOk yX8_inputsOf__ 2 from ⟨by decide +kernel, by decide +kernel, by decide +kernel⟩)
theorem kx_all_27 : CSx RX8 cX8_all False 27 3 yX8_groupOf cX8_groupOf 5 (some (FieldType.array (FieldType.object "PromiseKitchen$Stage"))) 3 [8] := CS_virtx 2 3 (show decode cX8_all 27 = .ok (.invokevirtual 140, 3) by decide +kernel) q_757 q_754 q_756 q_79 q_14 (show yOk yX8_groupOf 2 from ⟨by decide +kernel, by decide +kernel, by decide +kernel⟩) rfl 8 (T := TX8) (N := 12) rfl
theorem kx_any_36 : CSx RX8 cX8_any False 36 4 yX8_groupOf cX8_groupOf 5 (some (FieldType.array (FieldType.object "PromiseKitchen$Stage"))) 3 [8] := CS_virtx 2 3 (show decode cX8_any 36 = .ok (.invokevirtual 140, 3) by decide +kernel) q_757 q_754 q_756 q_79 q_14 (show yOk yX8_groupOf 2 from ⟨by decide +kernel, by decide +kernel, by decide +kernel⟩) rfl 8 (T := TX8) (N := 12) rfl
theorem kx_onFailure_53 : CSx RX8 cX8_onFailure False 53 6 yX8_inputsOf__ cX8_inputsOf__ 3 (some (FieldType.array (FieldType.object "PromiseKitchen$Stage"))) 2 [] := CS_staticx 2 (show decode cX8_onFailure 53 = .ok (.invokestatic 133, 3) by decide +kernel) q_741 q_739 q_740 q_79 (show yOk yX8_inputsOf__ 2 from ⟨by decide +kernel, by decide +kernel, by decide +kernel⟩)
theorem kx_limit_54 : CSx RX8 cX8_limit False 54 5 yX8_inputsOf_ cX8_inputsOf_ 2 (some (FieldType.array (FieldType.object "PromiseKitchen$Stage"))) 1 [] := CS_staticx 1 (show decode cX8_limit 54 = .ok (.invokestatic 130, 3) by decide +kernel) q_734 q_732 q_733 q_79 (show yOk yX8_inputsOf_ 1 from ⟨by decide +kernel, by decide +kernel, by decide +kernel⟩)
theorem kx_always_87 : CSx RX8 cX8_always False 87 7 yX8_inputsOf__ cX8_inputsOf__ 3 (some (FieldType.array (FieldType.object "PromiseKitchen$Stage"))) 2 [] := CS_staticx 2 (show decode cX8_always 87 = .ok (.invokestatic 133, 3) by decide +kernel) q_741 q_739 q_740 q_79 (show yOk yX8_inputsOf__ 2 from ⟨by decide +kernel, by decide +kernel, by decide +kernel⟩)
theorem kx_task_23 : CSx RX8 cX8_task False 23 4 yX8_inputsOf cX8_inputsOf 0 (some (FieldType.array (FieldType.object "PromiseKitchen$Stage"))) 0 [] := CS_staticx 0 (show decode cX8_task 23 = .ok (.invokestatic 93, 3) by decide +kernel) q_272 q_270 q_271 q_79 (show yOk yX8_inputsOf 0 from ⟨by decide +kernel, by decide +kernel, by decide +kernel⟩)
theorem kx_nested_38 : CSx RX8 cX8_nested False 38 6 yX8_inputsOf_ cX8_inputsOf_ 2 (some (FieldType.array (FieldType.object "PromiseKitchen$Stage"))) 1 [] := CS_staticx 1 (show decode cX8_nested 38 = .ok (.invokestatic 130, 3) by decide +kernel) q_734 q_732 q_733 q_79 (show yOk yX8_inputsOf_ 1 from ⟨by decide +kernel, by decide +kernel, by decide +kernel⟩)
section HOLD
variable {Y : YT} {G G' : GH} {A : AS} {n F : Nat} {K : MS} {L : KL}
theorem KR.hold (h : KR Y G A n F K L) (hold : ∀ a, G a ≠ none → G' a = G a) : KR Y G' A n F K L := ⟨fun k i hl => (hold _ (by rw [h.1 k i hl]; exact fun z => by cases z)).trans (h.1 k i hl), h.2⟩
def Q3 (q qi qh qp qe : Nat) : Nat → Nat := fun k => match k with | 1 => q | 2 => qi | 3 => qh | 4 => qp | _ => qe
def mkH (G : GH) (A : AS) (q qi qh : Nat) (c0 : Option AC) (ls : List Nat) (lh : Nat → Int64) (c1 : Option AC) : GH := va_up (va_up (va_up (va_up G q c0) qi (some (inA A ls))) qh (some (.inl (1, 4, .inr (.inl lh))))) q c1
def mkK (K : MS) (t : Nat) (σ : Nat → Int32) (ls : List Nat) : MS := stgK K t σ ls.length (elN ls) 0
theorem el_le2 {ls : List Nat} {n : Nat} (h : ∀ u ∈ ls, 1 ≤ u ∧ u ≤ n) (hn : n ≤ 201) (j : Nat) : (elN ls j).toNatClampNeg ≤ n := by
  have := el_le h hn j
  rw [elN, nI_clamp (by omega)]; exact this
theorem KR.mkS (h : KR Y G A n F K L) (hn : n ≤ 200) {q qi qh : Nat} {c0 : Option AC} (ls : List Nat) (lh : Nat → Int64) (hls : ∀ u ∈ ls, 1 ≤ u ∧ u ≤ n) (hl : ls.length ≤ 24) (hq : G q = none) (hqi : G qi = none) (hqh : G qh = none) (d1 : q ≠ qi) (d2 : q ≠ qh) (d3 : qi ≠ qh) (σ : Nat → Int32) (hw : decide (nI 1 ≤ σ 1 ∧ σ 1 ≤ nI 4) = false) : KR Y (mkH G A q qi qh c0 ls lh (some (stC false σ (stR (fun _ => none) qh qi)))) (nwA A (n + 1) (Q3 q qi qh 0 0)) (n + 1) F (mkK K (n + 1) σ ls) (upLt L (n + 1) lh) ∧ ∀ a, G a ≠ none → mkH G A q qi qh c0 ls lh (some (stC false σ (stR (fun _ => none) qh qi))) a = G a := by
  have hold : ∀ a, G a ≠ none → mkH G A q qi qh c0 ls lh (some (stC false σ (stR (fun _ => none) qh qi))) a = G a := by
    intro a ha
    unfold mkH
    rw [up_ne (fun z => ha (by rw [z]; exact hq)), up_ne (fun z => ha (by rw [z]; exact hqh)), up_ne (fun z => ha (by rw [z]; exact hqi)), up_ne (fun z => ha (by rw [z]; exact hq))]
  refine ⟨?_, hold⟩
  refine h.newS (G' := mkH G A q qi qh c0 ls lh (some (stC false σ (stR (fun _ => none) qh qi)))) (w := false) (σ := σ) (ρ := va_up (va_up (stR (fun _ => none) qh qi) 24 (some 0)) 25 (some 0)) (N := ls.length) (tm := 0) (inp := elN ls) (lh := lh) (by omega) (Q3 q qi qh 0 0) (by omega) (by omega) (el_le2 hls (by omega)) hold (fun k hk => ?_) (fun k k' hk hk' e => ?_) ?_ ?_ ?_ (fun z => by cases z) hw rfl rfl rfl rfl rfl rfl
  · rcases hk with rfl | rfl | rfl | ⟨z, -⟩
    · exact hq
    · exact hqi
    · exact hqh
    · cases z
  · rcases hk with rfl | rfl | rfl | ⟨z, -⟩ <;> rcases hk' with rfl | rfl | rfl | ⟨z', -⟩ <;> first | rfl | (exact absurd e d1) | (exact absurd e d2) | (exact absurd e d3) | (exact absurd e.symm d1) | (exact absurd e.symm d2) | (exact absurd e.symm d3) | (cases z) | (cases z')
  · show va_up _ q _ q = _
    rw [up_eq]; rfl
  · show va_up (va_up (va_up _ qi _) qh _) q _ qi = _
    rw [up_ne (Ne.symm d1), up_ne d3, up_eq]; rfl
  · show va_up (va_up _ qh _) q _ qh = _
    rw [up_ne (Ne.symm d2), up_eq]
end HOLD
variable {l : Launch} {Y : YT}
theorem PhK_stg {K : MS} {t F N tm : Nat} {σ inp : Nat → Int32} (ht : t < 1000) : PhK (stgK K t σ N inp tm) F = PhK K F := by
  have e : ∀ f j, ¬ (10 ≤ f ∧ f < 36) → (f < 1000 ∨ 4000 ≤ f) → stgK K t σ N inp tm f j = K f j := fun f j h1 h2 => stg_o (by omega) (by omega) (by omega) (by omega)
  unfold PhK
  rw [PhL_e (K := K) (K' := stgK K t σ N inp tm) (fun f j h => e f j (by unfold isLs at h; omega) (by unfold isLs at h; omega)), nN, e 3 0 (by decide) (by decide), nN, e 81 0 (by decide) (by decide)]; rfl
/-- the new stage n + 1, its fields at their beginning -/
def beg (n : Nat) (form kind am : Int32) : Nat → Int32 := stS (fun _ => 0) (nI (n + 1)) form kind am
/-- a new stage with these fields and inputs can be opened -/
def OpOk (n : Nat) (K2 : MS) (F : Nat) (L2 : KL) (I : MS → Nat → KL → Prop) (E : MS × Nat) : Prop := EnP (n + 1) I ∧ inK K2 (n + 1) (n + 1) ∧ rlOk (kepK K2 (n + 1)) (n + 1) F (n + 1) ∧ (nI 5 ≤ oA K2 (n + 1) F 16 (n + 1) → PeOk (n + 1) (oA K2 (n + 1) F) (n + 1) ∧ I (nteK (oA K2 (n + 1) F) (n + 1)) (oN K2 (n + 1) F) L2) ∧ E = opnS (n + 1) K2 F ∧ E.1 10 (n + 1) = nI (n + 1)
def thnP (K : MS) (v w : Int32) : Prop := (nI 1 ≤ v ∧ v ≤ K 0 0) ∧ (nI 0 ≤ w ∧ w ≤ nI 4)
set_option maxHeartbeats 2000000 in
theorem k_then (d : Nat) (G : GH) (A : AS) (n F : Nat) (K : MS) (L : KL) (v w a : Int32) (I : MS → Nat → KL → Prop) (E : MS × Nat) (hR : KR Y G A n F K L) (hm : mdK K n n)  (hO : thnP K v w → n < 200 → OpOk n (mkK K (n + 1) (beg n (nI 5) (w) (a)) [v.toNatClampNeg]) F (upLt L (n + 1) (hgN L (n + 1) [v.toNatClampNeg])) I E) : Cd l yX8_then cX8_then 5 (some .int) (d + 11) (110 + (PhK K F - PhK E.1 E.2)) (110 + (PhK K F - PhK E.1 E.2)) Y [.inr (.inr (some (A 0 0))), .inl v, .inl w, .inl a] G (fun r G' => (¬ thnP K v w ∧ r = some (.inl (-1)) ∧ KR Y G' A n F K L) ∨ (thnP K v w ∧ n = 200 ∧ r = some (.inl (-2)) ∧ KR Y G' A n F K L) ∨ (thnP K v w ∧ n < 200 ∧ r = some (.inl (nI (n + 1))) ∧ ∃ A', KR Y G' A' (n + 1) E.2 E.1 (upLt L (n + 1) (hgN L (n + 1) [v.toNatClampNeg])) ∧ A' 0 0 = A 0 0)) := by
  refine Ct.of (ini := False) (by decide +kernel) False.elim rfl (Nat.le_of_ble_eq_true rfl) ?_
  intro p e s m args below meth c C X
  have no : ¬ thnP K v w → ∀ (x0 : Option AV), V p l e (RM (d + 11) (110 + (PhK K F - PhK E.1 E.2)) (110 + (PhK K F - PhK E.1 E.2))) s m args below meth c Y (GA G s.heap.size) (QM below args s (RM (d + 11) (110 + (PhK K F - PhK E.1 E.2)) (110 + (PhK K F - PhK E.1 E.2))) Y G (fun r G' => (¬ thnP K v w ∧ r = some (.inl (-1)) ∧ KR Y G' A n F K L) ∨ (thnP K v w ∧ n = 200 ∧ r = some (.inl (-2)) ∧ KR Y G' A n F K L) ∨ (thnP K v w ∧ n < 200 ∧ r = some (.inl (nI (n + 1))) ∧ ∃ A', KR Y G' A' (n + 1) E.2 E.1 (upLt L (n + 1) (hgN L (n + 1) [v.toNatClampNeg])) ∧ A' 0 0 = A 0 0))) 21 G 0 0 [some (.inr (.inr (some (A 0 0)))), some (.inl v), some (.inl w), some (.inl a), x0] [] := by
    intro h x0
    refine b_X8_then_21.go C ⟨trivial, ?_⟩
    exact V_iret C X d_X8_then_22 (Nat.zero_le _) (Nat.zero_le _) (Or.inl ⟨h, rfl, hR⟩)
  refine b_X8_then_0.go C ⟨trivial, ?_⟩
  refine k_X8_then_2.go C X (k_find (d + 9) G A n F K L v n hR hm) (rest := []) rfl rfl rfl (fun _ => ⟨_, _, _, rfl, hR.mn, by decide⟩) (lb rfl) (Rq.of (by omega) (by decide) (Nat.zero_le _) (Nat.zero_le _)) ?_
  rintro r G9 ⟨h9, rfl⟩
  replace h9 := h9.symm
  subst h9
  by_cases hs : nI 1 ≤ v ∧ v ≤ K 0 0
  rotate_left
  · rw [if_neg hs]
    refine b_X8_then_5.go C ⟨fun _ => ⟨trivial, ?_⟩, fun _ h => by cases h⟩
    exact no (fun z => hs z.1) _
  have hs0 := hs
  obtain ⟨j, hj1, hj2, rfl⟩ := sT hm hs
  have h2000 := hm.2.2.1
  have ej : (nI j).toNatClampNeg = j := nI_clamp (by omega)
  rw [ej] at hO no ⊢
  rw [if_pos hs0]
  refine b_X8_then_5.go C ⟨fun h => (by cases h), fun _ _ => ⟨trivial, ?_⟩⟩
  refine b_X8_then_12.go C ⟨trivial, ?_⟩
  refine k_X8_then_15.go C X (c_isWithin (d + 10) G w (nI 0) (nI 4)) (rest := []) rfl rfl rfl (fun h => absurd rfl h) (lb rfl) (Rq.of (by omega) (by decide) (Nat.zero_le _) (Nat.zero_le _)) ?_
  rintro r G9 ⟨h9, rfl⟩
  replace h9 := h9.symm
  subst h9
  refine b_X8_then_18.go C ⟨fun h18 => ⟨trivial, ?_⟩, fun h18 => ⟨trivial, ?_⟩⟩
  rotate_left
  · exact no (fun z => wi_0 h18 z.2) _
  have h18 := wi_1 h18
  have hok : thnP K (nI j) w := ⟨hs0, h18⟩
  have hls : ∀ u ∈ [j], 1 ≤ u ∧ u ≤ n := fun u hu => by rw [List.mem_singleton.mp hu]; exact ⟨hj1, hj2⟩
  have hl24 : [j].length ≤ 24 := by simp
  have hn := hm.2.2.1
  refine b_X8_then_23.go C ⟨by show _ ≤ 110 + (PhK K F - PhK E.1 E.2); omega, by show _ ≤ 110 + (PhK K F - PhK E.1 E.2); omega, fun q hq => ?_⟩
  have R1 := hR.fresh hq (stC false (fun _ => 0) (fun _ => none))
  refine ⟨_, R1.mn, nI (n + 1), (congrArg (· + nI 1) hm.1).trans (nI_1 _), trivial, ?_⟩
  refine kx_then_37.go C X (k_inputsOf1 (d + 10) _ A n F K L j R1 ⟨hj1, hj2⟩) (rest := [.inl (nI 5), .inl (nI (n + 1)), .inr (.inr (some q)), .inr (.inr (some q)), .inr (.inr (some (A 0 0)))]) rfl rfl rfl (fun h => absurd rfl h) rfl (lb rfl) (Rq.of (by omega) (by decide) (by show _ ≤ 110 + (PhK K F - PhK E.1 E.2); omega) (by show _ ≤ 110 + (PhK K F - PhK E.1 E.2); omega)) ?_
  rintro r G9 ⟨qi, hqi, rfl, rfl⟩
  have d1 : q ≠ qi := ne_none up_eq hqi
  have hqi' : G qi = none := (up_ne (Ne.symm d1)).symm.trans hqi
  have R2 := R1.fresh hqi (inA A [j])
  refine b_X8_then_40.go C ⟨trivial, ?_⟩
  refine k_X8_then_42.go C X (k_StageInit d _ A n F K L q qi (n + 1) false (fun _ => 0) (fun _ => none) (nI 5) (w) (a) [j] R2 ((up_ne d1).trans up_eq) (oth_none hR hq) up_eq hls hl24 (by omega)) (rest := [.inr (.inr (some q)), .inr (.inr (some (A 0 0)))]) rfl rfl rfl (fun _ => ⟨_, _, _, rfl, (up_ne d1).trans up_eq, by decide⟩) (lb rfl) (Rq.of (by omega) (by decide) (by show _ ≤ 110 + (PhK K F - PhK E.1 E.2); omega) (by show _ ≤ 110 + (PhK K F - PhK E.1 E.2); omega)) ?_
  rintro r G8 ⟨rfl, qh, hqh, rfl⟩
  have d3 : qi ≠ qh := ne_none up_eq hqh
  have hqh1 := (up_ne (Ne.symm d3)).symm.trans hqh
  have d2 : q ≠ qh := ne_none up_eq hqh1
  have hqh' : G qh = none := (up_ne (Ne.symm d2)).symm.trans hqh1
  obtain ⟨R3, hold⟩ := hR.mkS hn (c0 := some (stC false (fun _ => 0) (fun _ => none))) [j] (hgN L (n + 1) [j]) hls hl24 hq hqi' hqh' d1 d2 d3 (beg n (nI 5) (w) (a)) (show decide (nI 1 ≤ nI 5 ∧ nI 5 ≤ nI 4) = false by decide +kernel)
  have eA0 : nwA A (n + 1) (Q3 q qi qh 0 0) 0 0 = A 0 0 := nwA_n (by omega)
  have eA1 : nwA A (n + 1) (Q3 q qi qh 0 0) 1 (n + 1) = q := nwA_s (Or.inl rfl)
  have e0 : mkK K (n + 1) (beg n (nI 5) (w) (a)) [j] 0 0 = nI n := (stg_o (by omega) (by omega) (by omega) (by omega)).trans hm.1
  have e10 : mkK K (n + 1) (beg n (nI 5) (w) (a)) [j] 10 (n + 1) = nI (n + 1) := by unfold mkK; rw [stg_s (by omega) (by decide) (by decide), if_neg (by decide), if_neg (by decide), if_neg (by decide)]; rfl
  have eph : PhK (mkK K (n + 1) (beg n (nI 5) (w) (a)) [j]) F = PhK K F := PhK_stg (by omega)
  by_cases h200 : n = 200
  · have ko := k_openF (l := l) d _ _ (n + 1) F _ _ q R3 (e0.trans (by rw [h200]))
    rw [eA0] at ko
    refine k_X8_then_45.go C X ko (rest := []) rfl rfl rfl (fun _ => ⟨_, _, _, rfl, by have := R3.mn; rw [eA0] at this; exact this, by decide⟩) (lb rfl) (Rq.of (by omega) (by decide) (by show _ ≤ 110 + (PhK K F - PhK E.1 E.2); omega) (by show _ ≤ 110 + (PhK K F - PhK E.1 E.2); omega)) ?_
    rintro r G7 ⟨rfl, h7⟩
    replace h7 := h7.symm
    subst h7
    exact V_iret C X d_X8_then_48 (by show _ ≤ 110 + (PhK K F - PhK E.1 E.2); omega) (by show _ ≤ 110 + (PhK K F - PhK E.1 E.2); omega) (Or.inr (Or.inl ⟨hok, h200, rfl, hR.hold hold⟩))
  · obtain ⟨o1, o2, o3, o4, o5, o6⟩ := hO hok (by omega)
    have ko := k_open (l := l) d _ _ F _ _ n I o1 R3 e0 o2 (by omega) e10 o3 o4 E o5 o6
    rw [eA0, eA1, eph] at ko
    refine k_X8_then_45.go C X ko (rest := []) rfl rfl rfl (fun _ => ⟨_, _, _, rfl, by have := R3.mn; rw [eA0] at this; exact this, by decide⟩) (lb rfl) (Rq.of (by omega) (by decide) (by show _ ≤ 110 + (PhK K F - PhK E.1 E.2); omega) (by show _ ≤ 110 + (PhK K F - PhK E.1 E.2); omega)) ?_
    rintro r G7 ⟨rfl, A7, R7, hA7⟩
    exact V_iret C X d_X8_then_48 (by show _ ≤ 110 + (PhK K F - PhK E.1 E.2); omega) (by show _ ≤ 110 + (PhK K F - PhK E.1 E.2); omega) (Or.inr (Or.inr ⟨hok, by omega, rfl, A7, R7, hA7.kt.trans eA0⟩))
end CM
