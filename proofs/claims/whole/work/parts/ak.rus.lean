/-! a run's step -/
section RUSS
variable {n k F w x y d wn : Nat} {K K1 K2 K' : MS} {L L1 L' : KL} {M M1 M' : MS}
theorem rnQ_J (hk : k ≤ 12) : ∀ (q w : Nat) (S : S3), JS (IK n k wn) S → S.1 2 0 = nI w → w + q ≤ 10000 → JS (IK n k wn) (rnQ n k q w S)
  | 0, _, _, h, _, _ => h
  | q + 1, w, S, hJ, hw, hb => by
    rw [rnQ]
    have hQ := ik_Rn (n := n) (k := k) (wn := wn) hk
    have hc := ik_hck (n := n) (k := k) (wn := wn) hk
    have J1 := (mn_ok hQ w hJ).1
    have w1 := (hc S w hJ hw).1
    have J2 := (lp_ok (n := k) (J := JS (IK n k wn)) (tc_st hQ.1 hQ.2.2.2.2.1) k 1 _ J1 (by omega) (by omega)).1
    have w2 := (hc _ w J1 w1).2
    unfold rnS9 tkS
    generalize lpF (tcS n) k 1 (mnS n S w) = Z at *
    obtain ⟨K2, F2, L2⟩ := Z
    have J3 := (tk_J hQ J2 w2 (by omega)).1
    exact rnQ_J hk q (w + 1) _ J3 (by show up2 (idK k 1 K2) 2 0 (nI (w + 1)) 2 0 = nI (w + 1); rw [up2_s]) (by omega)
theorem run_step (hS : Rst n k w F K L M) (hX : FX wn K F) (v : Int32) : (if rnB K v = true then v else -1) = runC M v ∧ ∃ w', Rst n k w' (rnE n k K F L v).2.1 (rnE n k K F L v).1 (rnE n k K F L v).2.2 (runM n k M v) ∧ FX wn (rnE n k K F L v).1 (rnE n k K F L v).2.1 := by
  obtain ⟨e, ha⟩ := rnB_eq hS.1 hS.2.1 v
  have e1 : nN K 2 0 = w := by rw [hS.1.a.2.2.1]; exact hS.2.1.a.2.2.2.2.2.2
  refine ⟨by unfold runC; rw [e], ?_⟩
  obtain ⟨w', h⟩ := run_sim hS v
  refine ⟨w', h, ?_⟩
  unfold rnE
  by_cases c : rnB K v = true
  · rw [if_pos c, e1]
    rw [e] at c
    obtain ⟨a, rfl, h1, h2⟩ := ha c
    rw [nI_clamp (by omega)]
    exact (rnQ_J hS.2.1.a.2.2.1 (a - w) w _ (hS.js hX) (by show K 2 0 = nI w; rw [hS.1.nt 2 0 rfl, e1]) (by omega)).1.choose_spec.1
  · rw [if_neg c]; exact hX
end RUSS
