/-! the law's two cases that catch -/
section LAWX
theorem cmp_self (x : Int64) : lg_cmp x x = 0 := by unfold lg_cmp; simp
theorem fl_ph {n k w wn F : Nat} {K M : MS} {L : KL} (hS : Rst n k w F K L M) (hX : FX wn K F) (hw : wn < 100000) {u : Nat} (h1 : 1 ≤ nN K 18 u) (h2 : nN K 18 u ≤ F) (i : Int32) : PhK (flE K i u).1 F = PhK K F := by
  have h := fl_start (hS.1.fs hS.2.1) hX hw (f0 := nN K 18 u - 1) (by omega) i
  rw [show nN K 18 u - 1 + 1 = nN K 18 u by omega] at h
  have w1 := h.1
  exact PhK_out (fun f j q => by rw [w1 f (by rcases q with q | q | q; (unfold isLs at q; omega); omega; omega) (by rcases q with q | q | q; (unfold isLs at q; omega); omega; omega)])
section
variable {p : Program} {l : Launch} {e : Env} {s : State} {m : MethodId} {args : Array Value} {below : List Frame} {meth : Method} {c : Code} {Y : YT} {A : Nat → Prop} {Q : State → Prop} {ret : Option FieldType}
variable {G : GH} {cN kN n k : Nat} {b N xa mx u t i j pc : Nat} {xs : Nat → Int32} {x5 x6 : Option AV} {st : List AV} {lc : List (Option AV)}
set_option maxHeartbeats 2000000 in
theorem cs_answer (C : Cx p s m args c meth Y A RL cL_law False) (X : Rx meth c ret 7) (hE : EW A s s.heap) (hl : l.stackTraces = false) (hs : Scr s A b N xs) (hi : i + 5 < N) (ht : t < 512) (hI : LI Y xa mx u t G cN kN) (next : ∀ G' n' k' x5 x6, LI Y xa mx u (t + 1) G' n' k' → V p l e room_1 s m args below meth c Y A Q 1319 G' n' k' (lcL b xa mx u i x5 x6) []) : V p l e room_1 s m args below meth c Y A Q 960 G cN kN (lcL b xa mx u i x5 x6) [] := by
  refine V_ld1 C (show decode cL_law 960 = .ok (.aload_n 1, 1) by decide +kernel) ?_
  refine V_arg (j := 1) C hs (show decode cL_law 961 = .ok (.aload_n 0, 1) by decide +kernel) (show decode cL_law 962 = .ok (.iload 4, 2) by decide +kernel) (show decode cL_law 964 = .ok (.iconst 1, 1) by decide +kernel) (show decode cL_law 965 = .ok (.iadd, 1) by decide +kernel) (show decode cL_law 966 = .ok (.iaload, 1) by decide +kernel) (by decide +kernel) (by omega) ?_
  refine V_ld3 C (show decode cL_law 967 = .ok (.aload_n 3, 1) by decide +kernel) ?_
  obtain ⟨GK, GR, ra, wn, P, f, hh, ⟨A1, n1, k1, w1, F1, K1, L1, M1, hR, rfl, hM, hS, hX, hP⟩, hw, hc1, hc2⟩ := hI
  obtain ⟨e0, e1, a1, e4, md, e2, em, hww⟩ := hS.n0
  obtain ⟨S', an1, an2, an3⟩ := ans_step hS (xs (i + 1))
  have fin : ∀ (kr : Int32) (G' GK' : GH) (f' : Nat → Int64), Lh u G' GK' GR f' → ansT M1 (xs (i + 1)) = kr → (kr = 0 → f' 0 = (ansM M1 (xs (i + 1))).toInt64) → (∀ GR', RR GR' mx ra (up2 M1 54 0 (ansT M1 (xs (i + 1)))) → ∃ wn' P', Cor Y GK' (A1 0 0) GR' mx ra wn' P' ∧ wn' ≤ wn + 1 ∧ P' ≤ P) → V p l e room_1 s m args below meth c Y A Q 971 G' (cN + 1) (kN + 6) (lcL b (A1 0 0) mx u i x5 x6) [.inl kr] := by
    intro kr G' GK' f' hh' hT hf0 hCor
    refine (show SJ RL cL_law False 971 (fun R Y K => w_istore 5 R Y (w_aload 2 R Y (t_at 974 R Y K))) from (SS_istore 5 (show decode cL_law 971 = .ok (.istore 5, 2) by decide +kernel)).to ((SS_aload_n 2 (show decode cL_law 973 = .ok (.aload_n 2, 1) by decide +kernel) rfl).to (SJ_at 974))).go C ⟨trivial, ?_⟩
    refine V_arg (j := 1) C hs (show decode cL_law 974 = .ok (.aload_n 0, 1) by decide +kernel) (show decode cL_law 975 = .ok (.iload 4, 2) by decide +kernel) (show decode cL_law 977 = .ok (.iconst 1, 1) by decide +kernel) (show decode cL_law 978 = .ok (.iadd, 1) by decide +kernel) (show decode cL_law 979 = .ok (.iaload, 1) by decide +kernel) (by decide +kernel) (by omega) ?_
    refine k_L_law_980.go C X ((r_answer 12 GR mx ra M1 n1 (xs (i + 1)) hM e1 a1).frame hh'.2.1) (rest := []) rfl rfl rfl (fun _ => ⟨mx, 9, _, rfl, (hh'.2.1 mx (by rw [hM.1]; exact fun z => nomatch z)).trans hM.1, by decide⟩) (lb rfl) (Rq_1 (by decide) (by decide) (by omega) (by omega)) ?_
    intro r G2 hf
    obtain ⟨GR', ⟨hM', rfl⟩, hh2⟩ := hh'.sw.fr hf
    refine b_L_law_983.go C ⟨trivial, ?_⟩
    refine k_L_law_986.go C X ((r_thrown 14 GR' mx ra _ hM').frame hh2.1) (rest := []) rfl rfl rfl (fun _ => ⟨mx, 9, _, rfl, (hh2.1 mx (by rw [hM'.1]; exact fun z => nomatch z)).trans hM'.1, by decide⟩) (lb rfl) (Rq_1 (by decide) (by decide) (by omega) (by omega)) ?_
    intro r G3 hf3
    obtain ⟨GR2, ⟨e9, rfl⟩, hh3⟩ := hh2.fr hf3
    rw [e9] at hh3
    obtain ⟨wn', P', hC', hw', hP'⟩ := hCor GR' hM'
    have done : V p l e room_1 s m args below meth c Y A Q 1013 G3 (cN + 1 + 0 + 0) (kN + 6 + 0 + 0) (lcL b (A1 0 0) mx u i (some (.inl kr)) (some (.inl (ansM M1 (xs (i + 1)))))) [] :=
      b_L_law_1013.go C ⟨trivial, next _ _ _ _ _ ⟨GK', GR', ra, wn', P', f', hh3.sw, hC', by omega, by omega, by omega⟩⟩
    refine b_L_law_989.go C ⟨fun _ => ⟨trivial, ?_⟩, fun h => absurd ((up2_s ..).trans hT) h⟩
    refine b_L_law_996.go C ⟨fun _ => ⟨trivial, done⟩, fun h0 => ⟨trivial, ?_⟩⟩
    exact b_L_law_1001.go C ⟨_, _, hh3.2.2.2.2.2, 0, rfl, by decide, by decide, _, rfl, _, rfl, _, rfl, fun _ => ⟨trivial, done⟩, fun h => absurd (by rw [hf0 h0]; exact cmp_self _) h⟩
  have hCor : ∀ GR', RR GR' mx ra (up2 M1 54 0 (ansT M1 (xs (i + 1)))) → ∃ wn' P', Cor Y GK (A1 0 0) GR' mx ra wn' P' ∧ wn' ≤ wn + 1 ∧ P' ≤ P := fun GR' hM' => ⟨wn, P, ⟨A1, n1, k1, w1, F1, K1, L1, _, hR, rfl, hM', S', hX, hP⟩, by omega, Nat.le_refl _⟩
  have ct := (x_answer (l := l) (Y := Y) 7 hl GK A1 n1 F1 K1 L1 (xs (i + 1)) hR md).frame (G := G) hh.1
  have h0 : ∀ (r : Option AV) (G' : GH), Fr G GK (fun G' => G' = GK ∧ (nI 1 ≤ (xs (i + 1)) ∧ (xs (i + 1)) ≤ K1 0 0) ∧ K1 16 (xs (i + 1)).toNatClampNeg = nI 5 ∧ r = some (.inl (K1 17 (xs (i + 1)).toNatClampNeg))) G' → ∃ (z : Int32) (f : Nat → Int64), r = some (.inl z) ∧ G' u = some (.inl (1, 1, .inr (.inl f))) ∧ (fun G' => ∃ f', Lh u G' GK GR f' ∧ f' 0 = (K1 17 (xs (i + 1)).toNatClampNeg).toInt64 ∧ (nI 1 ≤ (xs (i + 1)) ∧ (xs (i + 1)) ≤ K1 0 0) ∧ K1 16 (xs (i + 1)).toNatClampNeg = nI 5) (va_up G' u (some (.inl (1, 1, .inr (.inl (vp_updL f 0 z.toInt64)))))) := by
    intro r G' hp
    obtain ⟨G2, ⟨q0, q1, q2, q3⟩, hh2⟩ := hh.fr hp
    rw [q0] at hh2
    exact ⟨_, f, q3, hh2.2.2.2.2.2, _, hh2.st, by unfold vp_updL; rw [if_pos rfl], q1, q2⟩
  have hXX : ∀ (E : String) (G' : GH), Fr G GK (ansX K1 (xs (i + 1)) GK E) G' → (E = sIA ∧ (fun G' => Lh u G' GK GR f ∧ ¬ (nI 1 ≤ (xs (i + 1)) ∧ (xs (i + 1)) ≤ K1 0 0)) G') ∨ (E = sIS ∧ (fun G' => Lh u G' GK GR f ∧ (nI 1 ≤ (xs (i + 1)) ∧ (xs (i + 1)) ≤ K1 0 0) ∧ ¬ K1 16 (xs (i + 1)).toNatClampNeg = nI 5) G') := by
    intro E G' hp
    obtain ⟨G2, ⟨q0, hq⟩, hh2⟩ := hh.fr hp
    rw [q0] at hh2
    rcases hq with ⟨q, rfl⟩ | ⟨q, q5, rfl⟩
    · exact Or.inl ⟨rfl, hh2, q⟩
    · exact Or.inr ⟨rfl, hh2, q, q5⟩
  refine V_statW (nL := 7) (i := 111) (hh := hhA) (av := [.inr (.inr (some (A1 0 0))), .inl (xs (i + 1)), .inr (.inr (some u))]) (rest := []) 3 C hE X.2.2 rfl d_L_law_968 (hc_in _ (by simp)) (hc_in _ (by simp)) (hc_in _ (by simp)) (hc_in (Cond.initialized RL) (by simp)) (show yOk yL_answer 3 from ⟨by decide +kernel, by decide +kernel, by decide +kernel⟩) rfl (lb rfl) (Rq_1 (by decide) (by decide) (by omega) (by omega)) (y_answer (P0 := fun G' => ∃ f', Lh u G' GK GR f' ∧ f' 0 = (K1 17 (xs (i + 1)).toNatClampNeg).toInt64 ∧ (nI 1 ≤ (xs (i + 1)) ∧ (xs (i + 1)) ≤ K1 0 0) ∧ K1 16 (xs (i + 1)).toNatClampNeg = nI 5) (P1 := fun G' => Lh u G' GK GR f ∧ ¬ (nI 1 ≤ (xs (i + 1)) ∧ (xs (i + 1)) ≤ K1 0 0)) (P2 := fun G' => Lh u G' GK GR f ∧ (nI 1 ≤ (xs (i + 1)) ∧ (xs (i + 1)) ≤ K1 0 0) ∧ ¬ K1 16 (xs (i + 1)).toNatClampNeg = nI 5) 13 1 6 G (A1 0 0) u (xs (i + 1)) ((hh.1 _ (by rw [hR.mn]; exact fun z => nomatch z)).trans hR.mn) ct h0 hXX) ?_
  rintro r G' (⟨rfl, f', q1, q2, q3, q4⟩ | ⟨rfl, q1, q2⟩ | ⟨rfl, q1, q2, q3⟩)
  · obtain ⟨t1, t2⟩ := an3 q3 q4
    exact fin _ G' GK f' q1 t1 (fun _ => by rw [t2]; exact q2) hCor
  · exact fin _ G' GK f q1 (an1 q2) (fun h => absurd h (by decide)) hCor
  · exact fin _ G' GK f q1 (an2 q2 q3) (fun h => absurd h (by decide)) hCor
set_option maxHeartbeats 2000000 in
theorem cs_failure (C : Cx p s m args c meth Y A RL cL_law False) (X : Rx meth c ret 7) (hE : EW A s s.heap) (hl : l.stackTraces = false) (hs : Scr s A b N xs) (hi : i + 5 < N) (ht : t < 512) (hI : LI Y xa mx u t G cN kN) (next : ∀ G' n' k' x5 x6, LI Y xa mx u (t + 1) G' n' k' → V p l e room_1 s m args below meth c Y A Q 1319 G' n' k' (lcL b xa mx u i x5 x6) []) : V p l e room_1 s m args below meth c Y A Q 1053 G cN kN (lcL b xa mx u i x5 x6) [] := by
  refine V_ld1 C (show decode cL_law 1053 = .ok (.aload_n 1, 1) by decide +kernel) ?_
  refine V_arg (j := 1) C hs (show decode cL_law 1054 = .ok (.aload_n 0, 1) by decide +kernel) (show decode cL_law 1055 = .ok (.iload 4, 2) by decide +kernel) (show decode cL_law 1057 = .ok (.iconst 1, 1) by decide +kernel) (show decode cL_law 1058 = .ok (.iadd, 1) by decide +kernel) (show decode cL_law 1059 = .ok (.iaload, 1) by decide +kernel) (by decide +kernel) (by omega) ?_
  refine V_arg (j := 2) C hs (show decode cL_law 1060 = .ok (.aload_n 0, 1) by decide +kernel) (show decode cL_law 1061 = .ok (.iload 4, 2) by decide +kernel) (show decode cL_law 1063 = .ok (.iconst 2, 1) by decide +kernel) (show decode cL_law 1064 = .ok (.iadd, 1) by decide +kernel) (show decode cL_law 1065 = .ok (.iaload, 1) by decide +kernel) (by decide +kernel) (by omega) ?_
  refine V_arg (j := 3) C hs (show decode cL_law 1066 = .ok (.aload_n 0, 1) by decide +kernel) (show decode cL_law 1067 = .ok (.iload 4, 2) by decide +kernel) (show decode cL_law 1069 = .ok (.iconst 3, 1) by decide +kernel) (show decode cL_law 1070 = .ok (.iadd, 1) by decide +kernel) (show decode cL_law 1071 = .ok (.iaload, 1) by decide +kernel) (by decide +kernel) (by omega) ?_
  refine V_ld3 C (show decode cL_law 1072 = .ok (.aload_n 3, 1) by decide +kernel) ?_
  obtain ⟨GK, GR, ra, wn, P, f, hh, ⟨A1, n1, k1, w1, F1, K1, L1, M1, hR, rfl, hM, hS, hX, hP⟩, hw, hc1, hc2⟩ := hI
  obtain ⟨e0, e1, a1, e4, md, e2, em, hww⟩ := hS.n0
  have hI9 := hS.2.1
  have hF38 := hS.1.f.1
  obtain ⟨fs1, fs2, fs3⟩ := flr_step hS hX (by omega) (xs (i + 1)) (xs (i + 2)) (xs (i + 3))
  have hF : ∀ t, 1 ≤ t → t ≤ n1 → M1 8 t = nI 2 → ∃ h, h < F1 ∧ M1 12 t = nI h := fun t t1 t2 h8 => by
    have h9 := hI9.f12 t1 t2 ((hI9.nt.eq rfl (by decide)).mp h8)
    exact ⟨_, by omega, h9.2⟩
  have h18 : ∀ t, 1 ≤ t → t ≤ n1 → K1 18 t = nI (nN K1 18 t) ∧ nN K1 18 t ≤ F1 := fun t t1 t2 => by
    refine ⟨hS.1.nt 18 t rfl, ?_⟩
    by_cases h8 : nN M1 8 t = 2
    · have h9 := hI9.f12 t1 t2 h8
      rw [(hS.1.k18z t1 t2).2 h8]
      omega
    · have h9 := (hS.1.k18z t1 t2).1.mpr h8
      unfold nN
      rw [h9]
      exact Nat.zero_le _
  have h54 : flrT M1 (xs (i + 1)) (xs (i + 3)) ≠ 0 → flrM 1000001 M1 F1 (xs (i + 1)) (xs (i + 2)) (xs (i + 3)) 54 0 = flrT M1 (xs (i + 1)) (xs (i + 3)) := fun h => by unfold flrM; rw [if_neg h, up2_s]
  have S54 : flrT M1 (xs (i + 1)) (xs (i + 3)) ≠ 0 → Rst n1 k1 w1 F1 K1 L1 (flrM 1000001 M1 F1 (xs (i + 1)) (xs (i + 2)) (xs (i + 3))) := fun h => by
    unfold flrM
    rw [if_neg h]
    refine hS.cg (hI9.nt.up (fun _ => ?_)) (fun f hf => up2_f (by omega))
    unfold flrT
    split
    · split
      · exact nI_cl (by decide)
      · exact nI_cl (by decide)
    · exact nI_cl (by decide)
  have fin : ∀ (kr : Int32) (G' GK' : GH) (f' : Nat → Int64), Lh u G' GK' GR f' → flrM 1000001 M1 F1 (xs (i + 1)) (xs (i + 2)) (xs (i + 3)) 54 0 = kr → (kr = 0 → f' 0 = (flrC 1000001 M1 F1 (xs (i + 1)) (xs (i + 2)) (xs (i + 3))).toInt64) → (∀ GR', RR GR' mx ra (flrM 1000001 M1 F1 (xs (i + 1)) (xs (i + 2)) (xs (i + 3))) → ∃ wn' P', Cor Y GK' (A1 0 0) GR' mx ra wn' P' ∧ wn' ≤ wn + 1 ∧ P' ≤ P) → V p l e room_1 s m args below meth c Y A Q 1076 G' (cN + 1) (kN + 6) (lcL b (A1 0 0) mx u i x5 x6) [.inl kr] := by
    intro kr G' GK' f' hh' hT hf0 hCor
    refine (show SJ RL cL_law False 1076 (fun R Y K => w_istore 5 R Y (w_aload 2 R Y (t_at 1079 R Y K))) from (SS_istore 5 (show decode cL_law 1076 = .ok (.istore 5, 2) by decide +kernel)).to ((SS_aload_n 2 (show decode cL_law 1078 = .ok (.aload_n 2, 1) by decide +kernel) rfl).to (SJ_at 1079))).go C ⟨trivial, ?_⟩
    refine V_arg (j := 1) C hs (show decode cL_law 1079 = .ok (.aload_n 0, 1) by decide +kernel) (show decode cL_law 1080 = .ok (.iload 4, 2) by decide +kernel) (show decode cL_law 1082 = .ok (.iconst 1, 1) by decide +kernel) (show decode cL_law 1083 = .ok (.iadd, 1) by decide +kernel) (show decode cL_law 1084 = .ok (.iaload, 1) by decide +kernel) (by decide +kernel) (by omega) ?_
    refine V_arg (j := 2) C hs (show decode cL_law 1085 = .ok (.aload_n 0, 1) by decide +kernel) (show decode cL_law 1086 = .ok (.iload 4, 2) by decide +kernel) (show decode cL_law 1088 = .ok (.iconst 2, 1) by decide +kernel) (show decode cL_law 1089 = .ok (.iadd, 1) by decide +kernel) (show decode cL_law 1090 = .ok (.iaload, 1) by decide +kernel) (by decide +kernel) (by omega) ?_
    refine V_arg (j := 3) C hs (show decode cL_law 1091 = .ok (.aload_n 0, 1) by decide +kernel) (show decode cL_law 1092 = .ok (.iload 4, 2) by decide +kernel) (show decode cL_law 1094 = .ok (.iconst 3, 1) by decide +kernel) (show decode cL_law 1095 = .ok (.iadd, 1) by decide +kernel) (show decode cL_law 1096 = .ok (.iaload, 1) by decide +kernel) (by decide +kernel) (by omega) ?_
    refine k_L_law_1097.go C X ((r_failure 12 GR mx ra M1 1000001 F1 n1 (by decide) (xs (i + 1)) (xs (i + 2)) (xs (i + 3)) hM e1 a1 (hI9.trp hF38) hF).frame hh'.2.1) (rest := []) rfl rfl rfl (fun _ => ⟨mx, 9, _, rfl, (hh'.2.1 mx (by rw [hM.1]; exact fun z => nomatch z)).trans hM.1, by decide⟩) (lb rfl) (Rq_1 (by decide) (by decide) (by omega) (by omega)) ?_
    intro r G2 hf
    obtain ⟨GR', ⟨hM', rfl⟩, hh2⟩ := hh'.sw.fr hf
    refine b_L_law_1100.go C ⟨trivial, ?_⟩
    refine k_L_law_1103.go C X ((r_thrown 14 GR' mx ra _ hM').frame hh2.1) (rest := []) rfl rfl rfl (fun _ => ⟨mx, 9, _, rfl, (hh2.1 mx (by rw [hM'.1]; exact fun z => nomatch z)).trans hM'.1, by decide⟩) (lb rfl) (Rq_1 (by decide) (by decide) (by omega) (by omega)) ?_
    intro r G3 hf3
    obtain ⟨GR2, ⟨e9, rfl⟩, hh3⟩ := hh2.fr hf3
    rw [e9] at hh3
    obtain ⟨wn', P', hC', hw', hP'⟩ := hCor GR' hM'
    have done : V p l e room_1 s m args below meth c Y A Q 1130 G3 (cN + 1 + 0 + 0) (kN + 6 + 0 + 0) (lcL b (A1 0 0) mx u i (some (.inl kr)) (some (.inl (flrC 1000001 M1 F1 (xs (i + 1)) (xs (i + 2)) (xs (i + 3)))))) [] :=
      b_L_law_1130.go C ⟨trivial, next _ _ _ _ _ ⟨GK', GR', ra, wn', P', f', hh3.sw, hC', by omega, by omega, by omega⟩⟩
    refine b_L_law_1106.go C ⟨fun _ => ⟨trivial, ?_⟩, fun h => absurd (hT) h⟩
    refine b_L_law_1113.go C ⟨fun _ => ⟨trivial, done⟩, fun h0 => ⟨trivial, ?_⟩⟩
    exact b_L_law_1118.go C ⟨_, _, hh3.2.2.2.2.2, 0, rfl, by decide, by decide, _, rfl, _, rfl, _, rfl, fun _ => ⟨trivial, done⟩, fun h => absurd (by rw [hf0 h0]; exact cmp_self _) h⟩
  have ct := (x_failure (l := l) (Y := Y) 7 hl GK A1 n1 F1 K1 L1 (xs (i + 1)) (xs (i + 2)) (xs (i + 3)) hR md (hS.1.fw hI9 (by decide) (by decide) hX) h18).frame (G := G) hh.1
  have h0 : ∀ (r : Option AV) (G' : GH), Fr G GK (fun G' => flP K1 (xs (i + 1)) (xs (i + 3)) ∧ ¬ K1 18 (xs (i + 1)).toNatClampNeg = 0 ∧ (flE K1 (xs (i + 2)) (xs (i + 1)).toNatClampNeg).1 55 (flE K1 (xs (i + 2)) (xs (i + 1)).toNatClampNeg).2 = (xs (i + 2)) ∧ KR Y G' A1 n1 F1 (flE K1 (xs (i + 2)) (xs (i + 1)).toNatClampNeg).1 L1 ∧ FW (flE K1 (xs (i + 2)) (xs (i + 1)).toNatClampNeg).1 F1 ∧ r = some (.inl (flV (flE K1 (xs (i + 2)) (xs (i + 1)).toNatClampNeg) (xs (i + 3))))) G' → ∃ (z : Int32) (f : Nat → Int64), r = some (.inl z) ∧ G' u = some (.inl (1, 1, .inr (.inl f))) ∧ (fun G' => ∃ GK' f', Lh u G' GK' GR f' ∧ f' 0 = (flV (flE K1 (xs (i + 2)) (xs (i + 1)).toNatClampNeg) (xs (i + 3))).toInt64 ∧ flP K1 (xs (i + 1)) (xs (i + 3)) ∧ ¬ K1 18 (xs (i + 1)).toNatClampNeg = 0 ∧ (flE K1 (xs (i + 2)) (xs (i + 1)).toNatClampNeg).1 55 (flE K1 (xs (i + 2)) (xs (i + 1)).toNatClampNeg).2 = (xs (i + 2)) ∧ KR Y GK' A1 n1 F1 (flE K1 (xs (i + 2)) (xs (i + 1)).toNatClampNeg).1 L1 ∧ FW (flE K1 (xs (i + 2)) (xs (i + 1)).toNatClampNeg).1 F1) (va_up G' u (some (.inl (1, 1, .inr (.inl (vp_updL f 0 z.toInt64)))))) := by
    intro r G' hp
    obtain ⟨G2, ⟨q1, q2, q3, q4, q5, q6⟩, hh2⟩ := hh.fr hp
    exact ⟨_, f, q6, hh2.2.2.2.2.2, G2, _, hh2.st, by unfold vp_updL; rw [if_pos rfl], q1, q2, q3, q4, q5⟩
  have hXX : ∀ (E : String) (G' : GH), Fr G GK (flX Y A1 n1 F1 K1 L1 (xs (i + 1)) (xs (i + 2)) (xs (i + 3)) GK E) G' → (E = sIA ∧ (fun G' => Lh u G' GK GR f ∧ ¬ flP K1 (xs (i + 1)) (xs (i + 3))) G') ∨ (E = sIS ∧ (fun G' => Lh u G' GK GR f ∧ flP K1 (xs (i + 1)) (xs (i + 3)) ∧ K1 18 (xs (i + 1)).toNatClampNeg = 0) G') ∨ (E = sIB ∧ (fun G' => ∃ GK', Lh u G' GK' GR f ∧ flP K1 (xs (i + 1)) (xs (i + 3)) ∧ ¬ K1 18 (xs (i + 1)).toNatClampNeg = 0 ∧ ¬ (flE K1 (xs (i + 2)) (xs (i + 1)).toNatClampNeg).1 55 (flE K1 (xs (i + 2)) (xs (i + 1)).toNatClampNeg).2 = (xs (i + 2)) ∧ KR Y GK' A1 n1 F1 (flE K1 (xs (i + 2)) (xs (i + 1)).toNatClampNeg).1 L1 ∧ FW (flE K1 (xs (i + 2)) (xs (i + 1)).toNatClampNeg).1 F1) G') := by
    intro E G' hp
    obtain ⟨G2, hq, hh2⟩ := hh.fr hp
    rcases hq with ⟨q1, rfl, q0⟩ | ⟨q1, q2, rfl, q0⟩ | ⟨q1, q2, rfl, q3, q4, q5⟩
    · rw [q0] at hh2
      exact Or.inl ⟨rfl, hh2, q1⟩
    · rw [q0] at hh2
      exact Or.inr (Or.inl ⟨rfl, hh2, q1, q2⟩)
    · exact Or.inr (Or.inr ⟨rfl, G2, hh2, q1, q2, q3, q4, q5⟩)
  refine V_statW (nL := 7) (i := 124) (hh := hhF) (av := [.inr (.inr (some (A1 0 0))), .inl (xs (i + 1)), .inl (xs (i + 2)), .inl (xs (i + 3)), .inr (.inr (some u))]) (rest := []) 5 C hE X.2.2 rfl d_L_law_1073 (hc_in _ (by simp)) (hc_in _ (by simp)) (hc_in _ (by simp)) (hc_in (Cond.initialized RL) (by simp)) (show yOk yL_failure 5 from ⟨by decide +kernel, by decide +kernel, by decide +kernel⟩) rfl (lb rfl) (Rq_1 (by decide) (by decide) (by omega) (by omega)) (y_failure (P0 := (fun G' => ∃ GK' f', Lh u G' GK' GR f' ∧ f' 0 = (flV (flE K1 (xs (i + 2)) (xs (i + 1)).toNatClampNeg) (xs (i + 3))).toInt64 ∧ flP K1 (xs (i + 1)) (xs (i + 3)) ∧ ¬ K1 18 (xs (i + 1)).toNatClampNeg = 0 ∧ (flE K1 (xs (i + 2)) (xs (i + 1)).toNatClampNeg).1 55 (flE K1 (xs (i + 2)) (xs (i + 1)).toNatClampNeg).2 = (xs (i + 2)) ∧ KR Y GK' A1 n1 F1 (flE K1 (xs (i + 2)) (xs (i + 1)).toNatClampNeg).1 L1 ∧ FW (flE K1 (xs (i + 2)) (xs (i + 1)).toNatClampNeg).1 F1)) (P1 := (fun G' => Lh u G' GK GR f ∧ ¬ flP K1 (xs (i + 1)) (xs (i + 3)))) (P2 := (fun G' => Lh u G' GK GR f ∧ flP K1 (xs (i + 1)) (xs (i + 3)) ∧ K1 18 (xs (i + 1)).toNatClampNeg = 0)) (P3 := (fun G' => ∃ GK', Lh u G' GK' GR f ∧ flP K1 (xs (i + 1)) (xs (i + 3)) ∧ ¬ K1 18 (xs (i + 1)).toNatClampNeg = 0 ∧ ¬ (flE K1 (xs (i + 2)) (xs (i + 1)).toNatClampNeg).1 55 (flE K1 (xs (i + 2)) (xs (i + 1)).toNatClampNeg).2 = (xs (i + 2)) ∧ KR Y GK' A1 n1 F1 (flE K1 (xs (i + 2)) (xs (i + 1)).toNatClampNeg).1 L1 ∧ FW (flE K1 (xs (i + 2)) (xs (i + 1)).toNatClampNeg).1 F1)) 13 1 6 G (A1 0 0) u (xs (i + 1)) (xs (i + 2)) (xs (i + 3)) ((hh.1 _ (by rw [hR.mn]; exact fun z => nomatch z)).trans hR.mn) ct h0 hXX) ?_
  rintro r G' (⟨rfl, GK', f', q1, q2, q3, q4, q5, q6, q7⟩ | ⟨rfl, q1, q2⟩ | ⟨rfl, q1, q2, q3⟩ | ⟨rfl, GK', q1, q3, q4, q5, q6, q7⟩)
  · obtain ⟨t1, t2, E, hE9, t4, t5, t6⟩ := fs3 q3 q4
    subst hE9
    obtain ⟨S', X'⟩ := t5 q7
    rcases t6 with ⟨z1, z2, z3⟩ | ⟨z1, -⟩
    · refine fin _ G' GK' f' q1 z2 (fun _ => by rw [z3]; exact q2) (fun GR' hM' => ⟨wn + 1, P, ⟨A1, n1, k1, w1, F1, _, L1, _, q6, rfl, hM', S', X', ?_⟩, Nat.le_refl _, Nat.le_refl _⟩)
      rw [fl_ph hS hX (by omega) t2.1 t2.2]
      exact hP
    · exact absurd q5 z1
  · have hT := fs1 q2
    have h9 : flrT M1 (xs (i + 1)) (xs (i + 3)) ≠ 0 := by rw [hT]; decide
    exact fin _ G' GK f q1 ((h54 h9).trans hT) (fun h => absurd h (by decide)) (fun GR' hM' => ⟨wn, P, ⟨A1, n1, k1, w1, F1, K1, L1, _, hR, rfl, hM', S54 h9, hX, hP⟩, by omega, Nat.le_refl _⟩)
  · have hT := fs2 q2 q3
    have h9 : flrT M1 (xs (i + 1)) (xs (i + 3)) ≠ 0 := by rw [hT]; decide
    exact fin _ G' GK f q1 ((h54 h9).trans hT) (fun h => absurd h (by decide)) (fun GR' hM' => ⟨wn, P, ⟨A1, n1, k1, w1, F1, K1, L1, _, hR, rfl, hM', S54 h9, hX, hP⟩, by omega, Nat.le_refl _⟩)
  · obtain ⟨t1, t2, E, hE9, t4, t5, t6⟩ := fs3 q3 q4
    subst hE9
    obtain ⟨S', X'⟩ := t5 q7
    rcases t6 with ⟨z1, -, -⟩ | ⟨z1, z2⟩
    · exact absurd z1 q5
    · refine fin _ G' GK' f q1 z2 (fun h => absurd h (by decide)) (fun GR' hM' => ⟨wn + 1, P, ⟨A1, n1, k1, w1, F1, _, L1, _, q6, rfl, hM', S', X', ?_⟩, Nat.le_refl _, Nat.le_refl _⟩)
      rw [fl_ph hS hX (by omega) t2.1 t2.2]
      exact hP
end
end LAWX
