/-! the law's loop -/
section LOOPS
theorem lw_lt {N t : Nat} (hN : N ≤ 3072) (ht : t ≤ 512) (h : ¬ nI N - nI 6 < nI (6 * t)) : 6 * t + 6 ≤ N := by
  by_cases h6 : 6 ≤ N
  · rw [nI_subN h6] at h
    have := (nI_leI (by omega) (by omega)).mp (Int32.not_lt.mp h)
    omega
  · exfalso
    apply h
    have h0 : nI N - nI 6 < nI 0 := by
      have : N = 0 ∨ N = 1 ∨ N = 2 ∨ N = 3 ∨ N = 4 ∨ N = 5 := by omega
      rcases this with rfl | rfl | rfl | rfl | rfl | rfl <;> decide
    exact Int32.lt_of_lt_of_le h0 ((nI_leI (by omega) (by omega)).mpr (Nat.zero_le _))
theorem hl_23 : SJ RL cL_law False 23 (fun R Y K => w_iload 4 R Y (w_aload 0 R Y (t_at 26 R Y K))) := (SS_iload 4 (show decode cL_law 23 = .ok (.iload 4, 2) by decide +kernel)).to ((SS_aload_n 0 (show decode cL_law 25 = .ok (.aload_n 0, 1) by decide +kernel) rfl).to (SJ_at 26))
theorem hl_27 : SJ RL cL_law False 27 (fun R Y K => w_int (nI 6) R Y (w_isub R Y (t_icmp_gt 1325 33 R Y K))) := (SS_bipush (show decode cL_law 27 = .ok (.bipush 6, 2) by decide +kernel) (by decide +kernel)).to ((SS_isub (show decode cL_law 29 = .ok (.isub, 1) by decide +kernel)).to (SJ_icmp_gt 1325 33 (show decode cL_law 30 = .ok (.if_icmp .gt 1295, 3) by decide +kernel) (by decide +kernel) rfl))
theorem hl_33 : SJ RL cL_law False 33 (fun R Y K => w_aload 0 R Y (w_iload 4 R Y (t_at 36 R Y K))) := (SS_aload_n 0 (show decode cL_law 33 = .ok (.aload_n 0, 1) by decide +kernel) rfl).to ((SS_iload 4 (show decode cL_law 34 = .ok (.iload 4, 2) by decide +kernel)).to (SJ_at 36))
theorem hl_37 : SJ RL cL_law False 37 (fun R Y K => w_int (nI 31) R Y (w_iand R Y (t_table 0 28 [172, 197, 246, 271, 296, 345, 394, 431, 468, 517, 566, 627, 664, 737, 798, 847, 860, 897, 922, 935, 960, 1016, 1053, 1133, 1170, 1207, 1244, 1269, 1282] 1319 R Y K))) := (SS_bipush (show decode cL_law 37 = .ok (.bipush 31, 2) by decide +kernel) (by decide +kernel)).to ((SS_iand (show decode cL_law 39 = .ok (.iand, 1) by decide +kernel)).to (SJ_table [172, 197, 246, 271, 296, 345, 394, 431, 468, 517, 566, 627, 664, 737, 798, 847, 860, 897, 922, 935, 960, 1016, 1053, 1133, 1170, 1207, 1244, 1269, 1282] 1319 (show decode cL_law 40 = .ok (.tableswitch 1279 0 28 #[132, 157, 206, 231, 256, 305, 354, 391, 428, 477, 526, 587, 624, 697, 758, 807, 820, 857, 882, 895, 920, 976, 1013, 1093, 1130, 1167, 1204, 1229, 1242], 132) by decide +kernel) (by decide +kernel) (by decide +kernel) (by decide +kernel)))
variable {p : Program} {l : Launch} {e : Env} {s : State} {m : MethodId} {args : Array Value} {below : List Frame} {meth : Method} {c : Code} {Y : YT} {A : Nat → Prop} {Q : State → Prop} {ret : Option FieldType}
variable {b N xa mx u : Nat} {xs : Nat → Int32}
set_option maxHeartbeats 2000000 in
theorem V_loop (C : Cx p s m args c meth Y A RL cL_law False) (X : Rx meth c ret 7) (hE : EW A s s.heap) (hl : l.stackTraces = false) (hs : Scr s A b N xs) (fin : ∀ G n k i x5 x6, n ≤ 601024 → k ≤ 7293034 → V p l e room_1 s m args below meth c Y A Q 1325 G n k (lcL b xa mx u i x5 x6) []) : ∀ q t, q + t = 512 → ∀ G cN kN x5 x6, LI Y xa mx u t G cN kN → V p l e room_1 s m args below meth c Y A Q 23 G cN kN (lcL b xa mx u (6 * t) x5 x6) [] := by
  have hd : ∀ t G cN kN x5 x6, t ≤ 512 → LI Y xa mx u t G cN kN → (6 * t + 6 ≤ N → V p l e room_1 s m args below meth c Y A Q 33 G cN kN (lcL b xa mx u (6 * t) x5 x6) []) → V p l e room_1 s m args below meth c Y A Q 23 G cN kN (lcL b xa mx u (6 * t) x5 x6) [] := by
    intro t G cN kN x5 x6 ht hI hk
    refine hl_23.go C ⟨trivial, ?_⟩
    refine V_slen C hs (show decode cL_law 26 = .ok (.arraylength, 1) by decide +kernel) ?_
    refine hl_27.go C ⟨_, rfl, fun _ => ⟨trivial, ?_⟩, fun h => ⟨trivial, hk (lw_lt hs.2.2.2 ht h)⟩⟩
    obtain ⟨GK, GR, ra, wn, P, f, h1, h2, h3, h4, h5⟩ := hI
    exact fin _ _ _ _ _ _ (by omega) (by omega)
  intro q
  induction q with
  | zero =>
    intro t ht G cN kN x5 x6 hI
    refine hd t G cN kN x5 x6 (by omega) hI (fun h => ?_)
    have := hs.2.2.2
    omega
  | succ q ih =>
    intro t ht G cN kN x5 x6 hI
    refine hd t G cN kN x5 x6 (by omega) hI (fun hb => ?_)
    have nx : ∀ G' n' k' x5 x6, LI Y xa mx u (t + 1) G' n' k' → V p l e room_1 s m args below meth c Y A Q 1319 G' n' k' (lcL b xa mx u (6 * t) x5 x6) [] := fun G' n' k' x5 x6 h => b_L_law_1319.go C ⟨nI (6 * (t + 1)), nI_add _ _, trivial, ih (t + 1) (by omega) G' n' k' x5 x6 h⟩
    have nx1 : ∀ G' n' k', LI Y xa mx u (t + 1) G' n' k' → V p l e room_1 s m args below meth c Y A Q 1319 G' n' k' (lcL b xa mx u (6 * t) x5 x6) [] := fun G' n' k' h => nx G' n' k' x5 x6 h
    refine hl_33.go C ⟨trivial, ?_⟩
    refine V_sald C hs (show decode cL_law 36 = .ok (.iaload, 1) by decide +kernel) (by omega) ?_
    refine hl_37.go C ⟨_, rfl, fun _ => ⟨trivial, nx1 _ _ _ hI.up⟩, fun j tgt _ ho => ⟨trivial, ?_⟩⟩
    have hi : 6 * t + 5 < N := by omega
    have ht2 : t < 512 := by omega
    match j, ho with
    | 0, ho =>
      have e9 : 172 = tgt := Option.some.inj ho
      subst e9
      exact cs_cooks C X hs hi ht2 hI nx1
    | 1, ho =>
      have e9 : 197 = tgt := Option.some.inj ho
      subst e9
      exact cs_task C X hs hi ht2 hI nx1
    | 2, ho =>
      have e9 : 246 = tgt := Option.some.inj ho
      subst e9
      exact cs_value C X hs hi ht2 hI nx1
    | 3, ho =>
      have e9 : 271 = tgt := Option.some.inj ho
      subst e9
      exact cs_failed C X hs hi ht2 hI nx1
    | 4, ho =>
      have e9 : 296 = tgt := Option.some.inj ho
      subst e9
      exact cs_then C X hs hi ht2 hI nx1
    | 5, ho =>
      have e9 : 345 = tgt := Option.some.inj ho
      subst e9
      exact cs_both C X hs hi ht2 hI nx1
    | 6, ho =>
      have e9 : 394 = tgt := Option.some.inj ho
      subst e9
      exact cs_first C X hs hi ht2 hI nx1
    | 7, ho =>
      have e9 : 431 = tgt := Option.some.inj ho
      subst e9
      exact cs_all C X hs hi ht2 hI nx1
    | 8, ho =>
      have e9 : 468 = tgt := Option.some.inj ho
      subst e9
      exact cs_any C X hs hi ht2 hI nx1
    | 9, ho =>
      have e9 : 517 = tgt := Option.some.inj ho
      subst e9
      exact cs_onFailure C X hs hi ht2 hI nx1
    | 10, ho =>
      have e9 : 566 = tgt := Option.some.inj ho
      subst e9
      exact cs_always C X hs hi ht2 hI nx1
    | 11, ho =>
      have e9 : 627 = tgt := Option.some.inj ho
      subst e9
      exact cs_limit C X hs hi ht2 hI nx1
    | 12, ho =>
      have e9 : 664 = tgt := Option.some.inj ho
      subst e9
      exact cs_retry C X hs hi ht2 hI nx1
    | 13, ho =>
      have e9 : 737 = tgt := Option.some.inj ho
      subst e9
      exact cs_nested C X hs hi ht2 hI nx1
    | 14, ho =>
      have e9 : 798 = tgt := Option.some.inj ho
      subst e9
      exact cs_plan C X hs hi ht2 hI nx1
    | 15, ho =>
      have e9 : 847 = tgt := Option.some.inj ho
      subst e9
      exact cs_clearPlan C X hs hi ht2 hI nx1
    | 16, ho =>
      have e9 : 860 = tgt := Option.some.inj ho
      subst e9
      exact cs_callOff C X hs hi ht2 hI nx1
    | 17, ho =>
      have e9 : 897 = tgt := Option.some.inj ho
      subst e9
      exact cs_run C X hs hi ht2 hI nx1
    | 18, ho =>
      have e9 : 922 = tgt := Option.some.inj ho
      subst e9
      exact cs_now C X hs hi ht2 hI nx1
    | 19, ho =>
      have e9 : 935 = tgt := Option.some.inj ho
      subst e9
      exact cs_state C X hs hi ht2 hI nx1
    | 20, ho =>
      have e9 : 960 = tgt := Option.some.inj ho
      subst e9
      exact cs_answer C X hE hl hs hi ht2 hI nx
    | 21, ho =>
      have e9 : 1016 = tgt := Option.some.inj ho
      subst e9
      exact cs_end C X hs hi ht2 hI nx1
    | 22, ho =>
      have e9 : 1053 = tgt := Option.some.inj ho
      subst e9
      exact cs_failure C X hE hl hs hi ht2 hI nx
    | 23, ho =>
      have e9 : 1133 = tgt := Option.some.inj ho
      subst e9
      exact cs_work C X hs hi ht2 hI nx1
    | 24, ho =>
      have e9 : 1170 = tgt := Option.some.inj ho
      subst e9
      exact cs_pause C X hs hi ht2 hI nx1
    | 25, ho =>
      have e9 : 1207 = tgt := Option.some.inj ho
      subst e9
      exact cs_cook C X hs hi ht2 hI nx1
    | 26, ho =>
      have e9 : 1244 = tgt := Option.some.inj ho
      subst e9
      exact cs_served C X hs hi ht2 hI nx1
    | 27, ho =>
      have e9 : 1269 = tgt := Option.some.inj ho
      subst e9
      exact cs_stages C X hs hi ht2 hI nx1
    | 28, ho =>
      have e9 : 1282 = tgt := Option.some.inj ho
      subst e9
      exact cs_log C X hs hi ht2 hI nx1
    | j + 29, ho => exact absurd (List.getElem?_eq_some_iff.mp ho).1 (by simp)
end LOOPS
