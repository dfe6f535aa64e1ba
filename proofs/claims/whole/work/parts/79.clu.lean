/-! the class: run -/
section CLU
variable {l : Launch} {Y : YT}
def mnS (n : Nat) (S : S3) (w : Nat) : S3 := if mkB S.2.2 w = true then lpF epS n 1 (lpF (lmS n) n 1 (lpF (twS n) n 1 (lpF (coS n) n 1 S))) else S
def tkS (k : Nat) (S : S3) (w : Nat) : S3 := (up2 (idK k 1 S.1) 2 0 (nI (w + 1)), S.2)
/-- the minute w -/
def rnS9 (n k : Nat) (S : S3) (w : Nat) : S3 := tkS k (lpF (tcS n) k 1 (mnS n S w)) w
def rnQ (n k : Nat) : Nat → Nat → S3 → S3
  | 0, _, S => S
  | q + 1, w, S => rnQ n k q (w + 1) (rnS9 n k S w)
/-- the package of run -/
def RnK (n k : Nat) (I : MS → Nat → KL → Prop) : Prop := EnP n I ∧ EpP n I ∧ LmP n I ∧ TwP n I ∧ TcP n k I ∧ (∀ F L, idOk n k (fun K => I K F L)) ∧ ∀ K F L, I K F L → ∃ w, K 2 0 = nI w ∧ w ≤ 10000 ∧ (w < 10000 → I (up2 K 2 0 (nI (w + 1))) F L)
theorem idK_o (f : Nat) (hf : f ≠ 62) : ∀ (q c : Nat) (K : MS), idK q c K f = K f
  | 0, _, _ => rfl
  | q + 1, c, K => by
    rw [idK, idK_o f hf q (c + 1)]
    split
    · rw [up2_f hf]
    · rfl
theorem idK_I {n k : Nat} {I : MS → Prop} (hQ : idOk n k I) : ∀ (q c : Nat) (K : MS), I K → 1 ≤ c → c + q ≤ 13 → I (idK q c K)
  | 0, _, _, h, _, _ => h
  | q + 1, c, K, h, h1, h2 => by
    rw [idK]
    refine idK_I hQ q (c + 1) _ ?_ (by omega) (by omega)
    split
    · exact ((hQ.2 K h).2.2 c h1 (by omega)).2.2 _
    · exact h
theorem PhK_id (k : Nat) (K : MS) (F : Nat) : PhK (idK k 1 K) F = PhK K F := by
  unfold PhK
  rw [PhL_e (K := K) (K' := idK k 1 K) (fun f j h => by rw [idK_o f (fun e => by subst e; unfold isLs at h; omega)]), nN, idK_o 3 (by decide), nN, idK_o 81 (by decide)]; rfl
theorem mn_ok {n k : Nat} {I : MS → Nat → KL → Prop} (hQ : RnK n k I) {S : S3} (w : Nat) (hJ : JS I S) : JS I (mnS n S w) ∧ PhK (mnS n S w).1 (mnS n S w).2.1 ≤ PhK S.1 S.2.1 := by
  obtain ⟨hP, h1, h2, h3, -⟩ := hQ
  unfold mnS
  split
  · obtain ⟨a1, a2⟩ := lp_ok (n := n) (J := JS I) (co_st hP) n 1 S hJ (by omega) (by omega)
    obtain ⟨b1, b2⟩ := lp_ok (n := n) (J := JS I) (tw_st hP h3) n 1 _ a1 (by omega) (by omega)
    obtain ⟨c1, c2⟩ := lp_ok (n := n) (J := JS I) (lm_st hP h2) n 1 _ b1 (by omega) (by omega)
    obtain ⟨d1, d2⟩ := lp_ok (n := n) (J := JS I) (ep_st hP h1) n 1 _ c1 (by omega) (by omega)
    exact ⟨d1, Nat.le_trans d2 (Nat.le_trans c2 (Nat.le_trans b2 a2))⟩
  · exact ⟨hJ, Nat.le_refl _⟩
theorem tk_J {n k : Nat} {I : MS → Nat → KL → Prop} (hQ : RnK n k I) {K : MS} {F : Nat} {L : KL} {w : Nat} (hJ : JS I (K, F, L)) (hw : K 2 0 = nI w) (hw2 : w < 10000) : JS I (up2 (idK k 1 K) 2 0 (nI (w + 1)), F, L) ∧ PhK (up2 (idK k 1 K) 2 0 (nI (w + 1))) F = PhK K F := by
  obtain ⟨hP, h1, h2, h3, h4, h5, h6⟩ := hQ
  have hk := h4.1
  have hI1 : I (idK k 1 K) F L := idK_I (h5 F L) k 1 K hJ.1 (by omega) (by omega)
  obtain ⟨w', e1, e2, e3⟩ := h6 _ _ _ hI1
  have e4 : idK k 1 K 2 0 = nI w := by rw [idK_o 2 (by decide)]; exact hw
  have : w' = w := (nI_eq (by omega) (by omega)).mp (e1.symm.trans e4)
  subst this
  refine ⟨⟨e3 hw2, ?_⟩, by rw [PhK_up (by decide) (by decide) (nls (by decide)), PhK_id]⟩
  show lsL (up2 (idK k 1 K) 2 0 (nI (w' + 1))) 13 = []
  rw [lsL_e (K := K) (by decide) (fun f j h => by rw [up2_f (fun e => by subst e; unfold isLs at h; omega), idK_o f (fun e => by subst e; unfold isLs at h; omega)])]
  exact hJ.2
def rnB (K : MS) (v : Int32) : Bool := decide (K 2 0 ≤ v ∧ v ≤ if nI 10000 < K 2 0 + nI 400 then nI 10000 else K 2 0 + nI 400)
def rnE (n k : Nat) (K : MS) (F : Nat) (L : KL) (v : Int32) : S3 := if rnB K v = true then rnQ n k (v.toNatClampNeg - nN K 2 0) (nN K 2 0) (K, F, L) else (K, F, L)
set_option maxHeartbeats 4000000 in
theorem k_run (d : Nat) (G : GH) (A : AS) (n k F : Nat) (K : MS) (L : KL) (I : MS → Nat → KL → Prop) (hQ : RnK n k I) (hck : ∀ S w, JS I S → S.1 2 0 = nI w → (mnS n S w).1 2 0 = nI w ∧ (lpF (tcS n) k 1 S).1 2 0 = nI w) (hR : KR Y G A n F K L) (hJ : JS I (K, F, L)) (v : Int32) (E : S3) (hE : E = rnE n k K F L v) : Cd l yX8_run cX8_run 3 (some .int) (d + 11) (PhK K F - PhK E.1 E.2.1) (PhK K F - PhK E.1 E.2.1) Y [.inr (.inr (some (A 0 0))), .inl v] G (fun r G' => r = some (.inl (if rnB K v = true then v else -1)) ∧ ∃ A', KR Y G' A' n E.2.1 E.1 E.2.2 ∧ AK A A') := by
  refine Ct.of (ini := False) (by decide +kernel) False.elim rfl (Nat.le_of_ble_eq_true rfl) ?_
  intro p e s m args below meth c C X
  have hQ0 := hQ
  obtain ⟨hP, h1, h2, h3, h4, h5, h6⟩ := hQ
  obtain ⟨w0, ew, ew2, -⟩ := h6 K F L hJ.1
  have hst : ∀ (S : S3) (w : Nat), JS I S → S.1 2 0 = nI w → w < 10000 → JS I (rnS9 n k S w) ∧ PhK (rnS9 n k S w).1 (rnS9 n k S w).2.1 ≤ PhK S.1 S.2.1 ∧ (rnS9 n k S w).1 2 0 = nI (w + 1) := by
    intro S w hS hw hw2
    obtain ⟨a1, a2⟩ := mn_ok hQ0 w hS
    obtain ⟨b1, b2⟩ := lp_ok (n := k) (J := JS I) (tc_st hP h4) k 1 _ a1 (by omega) (by omega)
    have c1 := (hck (mnS n S w) w a1 (hck S w hS hw).1).2
    obtain ⟨d1, d2⟩ := tk_J hQ0 (K := (lpF (tcS n) k 1 (mnS n S w)).1) (F := (lpF (tcS n) k 1 (mnS n S w)).2.1) (L := (lpF (tcS n) k 1 (mnS n S w)).2.2) b1 c1 hw2
    refine ⟨d1, ?_, up2_s (idK k 1 (lpF (tcS n) k 1 (mnS n S w)).1) 2 0 (nI (w + 1))⟩
    show PhK (up2 (idK k 1 (lpF (tcS n) k 1 (mnS n S w)).1) 2 0 (nI (w + 1))) (lpF (tcS n) k 1 (mnS n S w)).2.1 ≤ _
    rw [d2]
    exact Nat.le_trans b2 a2
  have hsq : ∀ (q w : Nat) (S : S3), JS I S → S.1 2 0 = nI w → w + q ≤ 10000 → PhK (rnQ n k q w S).1 (rnQ n k q w S).2.1 ≤ PhK S.1 S.2.1 := by
    intro q
    induction q with
    | zero => intro w S _ _ _; exact Nat.le_refl _
    | succ q ih =>
      intro w S hS hw hq
      obtain ⟨a1, a2, a3⟩ := hst S w hS hw (by omega)
      rw [rnQ]
      exact Nat.le_trans (ih (w + 1) _ a1 a3 (by omega)) a2
  refine b_X8_run_0.go C ⟨_, hR.mn, _, hR.mn, _, rfl, trivial, ?_⟩
  refine k_X8_run_16.go C X (c_min (d + 10) G (K 2 0 + nI 400) (nI 10000)) (rest := [.inl (K 2 0), .inl v]) rfl rfl rfl (fun h => absurd rfl h) (lb rfl) (Rq.of (by omega) (by decide) (Nat.zero_le _) (Nat.zero_le _)) ?_
  rintro r G9 ⟨h9, rfl⟩
  replace h9 := h9.symm
  subst h9
  refine k_X8_run_19.go C X (c_isWithin (d + 10) G v (K 2 0) (if nI 10000 < K 2 0 + nI 400 then nI 10000 else K 2 0 + nI 400)) (rest := []) rfl rfl rfl (fun h => absurd rfl h) (lb rfl) (Rq.of (by omega) (by decide) (Nat.zero_le _) (Nat.zero_le _)) ?_
  rintro r G9 ⟨h9, rfl⟩
  replace h9 := h9.symm
  subst h9
  refine b_X8_run_22.go C ⟨fun h22 => ⟨trivial, ?_⟩, fun h22 => ⟨trivial, ?_⟩⟩
  rotate_left
  · have hb : rnB K v = false := decide_eq_false (wi_0 h22)
    rw [rnE, if_neg (by rw [hb]; decide)] at hE
    refine b_X8_run_25.go C ⟨trivial, ?_⟩
    have e1 : E.1 = K := by rw [hE]
    have e2 : E.2.1 = F := by rw [hE]
    have e3 : E.2.2 = L := by rw [hE]
    rw [e1, e2, e3]
    exact V_iret C X d_X8_run_26 (Nat.zero_le _) (Nat.zero_le _) ⟨by rw [hb]; rfl, A, hR, AK.rf A⟩
  have hb : rnB K v = true := decide_eq_true (wi_1 h22)
  rw [rnE, if_pos hb] at hE
  obtain ⟨b1, b2⟩ := of_decide_eq_true hb
  have hvb : ∃ j, w0 ≤ j ∧ j ≤ 10000 ∧ v = nI j := by
    have hle : v ≤ nI 10000 := by
      by_cases hc : nI 10000 < K 2 0 + nI 400
      · rw [if_pos hc] at b2; exact b2
      · rw [if_neg hc] at b2
        refine Int32.le_trans b2 ?_
        exact Int32.not_lt.mp hc
    exact in_of (by omega) ⟨ew ▸ b1, hle⟩ (by omega)
  obtain ⟨vj, v1, v2, v3⟩ := hvb
  have en : nN K 2 0 = w0 := nN_of ew (by omega)
  rw [v3, nI_clamp (by omega), en] at hE
  rw [if_pos hb]
  subst v3
  generalize hT : PhK K F = T at *
  refine b_X8_run_27.go C ⟨_, hR.mn, trivial, ?_⟩
  have lp : ∀ (q w : Nat) (G1 : GH) (A1 : AS) (K1 : MS) (F1 : Nat) (L1 : KL), w + q = vj → KR Y G1 A1 n F1 K1 L1 → AK A A1 → JS I (K1, F1, L1) → K1 2 0 = nI w → PhK K1 F1 ≤ T → E = rnQ n k q w (K1, F1, L1) → V p l e (RM (d + 11) (T - PhK E.1 E.2.1) (T - PhK E.1 E.2.1)) s m args below meth c Y (GA G s.heap.size) (QM below args s (RM (d + 11) (T - PhK E.1 E.2.1) (T - PhK E.1 E.2.1)) Y G (fun r G' => r = some (.inl (nI vj)) ∧ ∃ A', KR Y G' A' n E.2.1 E.1 E.2.2 ∧ AK A A')) 32 G1 (T - PhK K1 F1) (T - PhK K1 F1) [some (.inr (.inr (some (A1 0 0)))), some (.inl (nI vj)), some (.inl (nI w))] [] := by
    intro q
    induction q with
    | zero =>
      intro w G1 A1 K1 F1 L1 hw R1 hA hJ1 ec hph hs
      rw [rnQ] at hs
      refine b_X8_run_32.go C ⟨fun _ => ⟨trivial, ?_⟩, fun h => absurd (nI_le (by omega) (by omega)) h⟩
      refine b_X8_run_85.go C ⟨trivial, ?_⟩
      have e1 : E.1 = K1 := by rw [hs]
      have e2 : E.2.1 = F1 := by rw [hs]
      have e3 : E.2.2 = L1 := by rw [hs]
      rw [e1, e2, e3]
      exact V_iret C X d_X8_run_86 (Nat.le_refl _) (Nat.le_refl _) ⟨rfl, A1, R1, hA⟩
    | succ q ih =>
      intro w G1 A1 K1 F1 L1 hw R1 hA hJ1 ec hph hs
      rw [rnQ] at hs
      obtain ⟨a1, a2, a3⟩ := hst (K1, F1, L1) w hJ1 ec (by omega)
      have hEr : PhK E.1 E.2.1 ≤ PhK (rnS9 n k (K1, F1, L1) w).1 (rnS9 n k (K1, F1, L1) w).2.1 := by
        rw [hs]; exact hsq q (w + 1) _ a1 a3 (by omega)
      obtain ⟨m1, m2⟩ := mn_ok hQ0 w hJ1
      have m3 := (hck (K1, F1, L1) w hJ1 ec).1
      -- from the cooks' turn on
      have tl : ∀ (G2 : GH) (A2 : AS) (a b : Nat) (K2 : MS) (F2 : Nat) (L2 : KL), mnS n (K1, F1, L1) w = (K2, F2, L2) → KR Y G2 A2 n F2 K2 L2 → AK A A2 → a ≤ T - PhK K2 F2 → b ≤ T - PhK K2 F2 → V p l e (RM (d + 11) (T - PhK E.1 E.2.1) (T - PhK E.1 E.2.1)) s m args below meth c Y (GA G s.heap.size) (QM below args s (RM (d + 11) (T - PhK E.1 E.2.1) (T - PhK E.1 E.2.1)) Y G (fun r G' => r = some (.inl (nI vj)) ∧ ∃ A', KR Y G' A' n E.2.1 E.1 E.2.2 ∧ AK A A')) 64 G2 a b [some (.inr (.inr (some (A2 0 0)))), some (.inl (nI vj)), some (.inl (nI w))] [] := by
        intro G2 A2 a b K2 F2 L2 em R2 hA2 ha hb2
        refine V.widen ha hb2 ?_
        rw [em] at m1 m2 m3
        have m2 : PhK K2 F2 ≤ PhK K1 F1 := m2
        obtain ⟨t1, t2⟩ := lp_ok (n := k) (J := JS I) (tc_st hP h4) k 1 (K2, F2, L2) m1 (by omega) (by omega)
        have t3 := (hck (K2, F2, L2) w m1 m3).2
        have er : rnS9 n k (K1, F1, L1) w = tkS k (lpF (tcS n) k 1 (K2, F2, L2)) w := by unfold rnS9; rw [em]
        rw [er] at hs hEr a1 a3
        generalize hZ : lpF (tcS n) k 1 (K2, F2, L2) = Z at *
        obtain ⟨K3, F3, L3⟩ := Z
        have t2 : PhK K3 F3 ≤ PhK K2 F2 := t2
        obtain ⟨u1, u2⟩ := tk_J hQ0 (w := w) t1 t3 (by omega)
        have hEr : PhK E.1 E.2.1 ≤ PhK K3 F3 := by rw [← u2]; exact hEr
        refine b_X8_run_64.go C ⟨trivial, ?_⟩
        refine k_X8_run_65.go C X (k_turnToCooks d G2 A2 n k F2 K2 L2 I hP h4 R2 m1 (K3, F3, L3) hZ.symm) (rest := []) rfl rfl rfl (fun _ => ⟨_, _, _, rfl, R2.mn, by decide⟩) (lb rfl) (Rq.of (by omega) (by decide) (by show T - PhK K2 F2 + (PhK K2 F2 - PhK K3 F3) ≤ T - PhK E.1 E.2.1; omega) (by show T - PhK K2 F2 + (PhK K2 F2 - PhK K3 F3) ≤ T - PhK E.1 E.2.1; omega)) ?_
        rintro r G9 ⟨rfl, A3, R3, hA3⟩
        have R3 : KR Y G9 A3 n F3 K3 L3 := R3
        rw [← hA3.kt]
        refine V.widen (n' := T - PhK K3 F3) (k' := T - PhK K3 F3) (by show T - PhK K2 F2 + (PhK K2 F2 - PhK K3 F3) ≤ _; omega) (by show T - PhK K2 F2 + (PhK K2 F2 - PhK K3 F3) ≤ _; omega) ?_
        refine b_X8_run_68.go C ⟨trivial, ?_⟩
        refine k_X8_run_69.go C X (k_countIdle (d + 6) G9 A3 n k F3 K3 L3 (fun K => I K F3 L3) (h5 F3 L3) R3 t1.1) (rest := []) rfl rfl rfl (fun _ => ⟨_, _, _, rfl, R3.mn, by decide⟩) (lb rfl) (Rq.of (by omega) (by decide) (by show _ ≤ T - PhK E.1 E.2.1; omega) (by show _ ≤ T - PhK E.1 E.2.1; omega)) ?_
        rintro r G8 ⟨rfl, R4⟩
        refine b_X8_run_72.go C ⟨_, nI_1 _, _, R4.mn, _, nI_1 _, trivial, ?_⟩
        rw [← u2]
        exact ih (w + 1) _ A3 (up2 (idK k 1 K3) 2 0 (nI (w + 1))) F3 L3 (by omega) (R4.m2 (nI (w + 1))) (hA2.tr hA3) u1 (up2_s _ _ _ _) (by omega) hs
      refine b_X8_run_32.go C ⟨fun h => absurd (show vj ≤ w from (nI_leI (by omega) (by omega)).mp h) (by omega), fun _ => ⟨trivial, ?_⟩⟩
      have hEr1 : PhK E.1 E.2.1 ≤ PhK K1 F1 := Nat.le_trans hEr a2
      refine b_X8_run_37.go C ⟨_, R1.mn, trivial, ?_⟩
      refine k_X8_run_42.go C X (k_isMarked (d + 9) G1 A1 n F1 K1 L1 w R1 (by omega)) (rest := []) rfl rfl rfl (fun _ => ⟨_, _, _, rfl, R1.ag, by decide⟩) (lb rfl) (Rq.of (by omega) (by decide) (by show _ ≤ T - PhK E.1 E.2.1; omega) (by show _ ≤ T - PhK E.1 E.2.1; omega)) ?_
      rintro r G9 ⟨h9, rfl⟩
      replace h9 := h9.symm
      subst h9
      refine b_X8_run_45.go C ⟨fun h45 => ⟨trivial, ?_⟩, fun h45 => ⟨trivial, ?_⟩⟩
      · have h45 : mkB L1 w = false := bI_0 h45
        exact tl G1 A1 _ _ K1 F1 L1 (by unfold mnS; rw [if_neg (by rw [show mkB (K1, F1, L1).2.2 w = false from h45]; decide)]) R1 hA (Nat.le_refl _) (Nat.le_refl _)
      have h45 : mkB L1 w = true := bI_1 h45
      have em : mnS n (K1, F1, L1) w = lpF epS n 1 (lpF (lmS n) n 1 (lpF (twS n) n 1 (lpF (coS n) n 1 (K1, F1, L1)))) := by unfold mnS; rw [if_pos (show mkB (K1, F1, L1).2.2 w = true from h45)]
      obtain ⟨x1, x2⟩ := lp_ok (n := n) (J := JS I) (co_st hP) n 1 (K1, F1, L1) hJ1 (by omega) (by omega)
      have hEm : PhK E.1 E.2.1 ≤ PhK (mnS n (K1, F1, L1) w).1 (mnS n (K1, F1, L1) w).2.1 := by
        refine Nat.le_trans hEr ?_
        obtain ⟨t1, t2⟩ := lp_ok (n := k) (J := JS I) (tc_st hP h4) k 1 (mnS n (K1, F1, L1) w) m1 (by omega) (by omega)
        have t3 := (hck (mnS n (K1, F1, L1) w) w m1 m3).2
        have u := (tk_J hQ0 (K := (lpF (tcS n) k 1 (mnS n (K1, F1, L1) w)).1) (F := (lpF (tcS n) k 1 (mnS n (K1, F1, L1) w)).2.1) (L := (lpF (tcS n) k 1 (mnS n (K1, F1, L1) w)).2.2) (w := w) t1 t3 (by omega)).2
        show PhK (up2 (idK k 1 (lpF (tcS n) k 1 (mnS n (K1, F1, L1) w)).1) 2 0 (nI (w + 1))) (lpF (tcS n) k 1 (mnS n (K1, F1, L1) w)).2.1 ≤ _
        rw [u]; exact t2
      rw [em] at hEm
      generalize hZ1 : lpF (coS n) n 1 (K1, F1, L1) = Z1 at *
      obtain ⟨Ka, Fa, La⟩ := Z1
      obtain ⟨y1, y2⟩ := lp_ok (n := n) (J := JS I) (tw_st hP h3) n 1 (Ka, Fa, La) x1 (by omega) (by omega)
      generalize hZ2 : lpF (twS n) n 1 (Ka, Fa, La) = Z2 at *
      obtain ⟨Kb, Fb, Lb⟩ := Z2
      obtain ⟨z1, z2⟩ := lp_ok (n := n) (J := JS I) (lm_st hP h2) n 1 (Kb, Fb, Lb) y1 (by omega) (by omega)
      generalize hZ3 : lpF (lmS n) n 1 (Kb, Fb, Lb) = Z3 at *
      obtain ⟨Kc, Fc', Lc⟩ := Z3
      obtain ⟨w1, w2⟩ := lp_ok (n := n) (J := JS I) (ep_st hP h1) n 1 (Kc, Fc', Lc) z1 (by omega) (by omega)
      generalize hZ4 : lpF epS n 1 (Kc, Fc', Lc) = Z4 at *
      obtain ⟨Kd, Fd, Ld⟩ := Z4
      have x2 : PhK Ka Fa ≤ PhK K1 F1 := x2
      have y2 : PhK Kb Fb ≤ PhK Ka Fa := y2
      have z2 : PhK Kc Fc' ≤ PhK Kb Fb := z2
      have w2 : PhK Kd Fd ≤ PhK Kc Fc' := w2
      have hEm : PhK E.1 E.2.1 ≤ PhK Kd Fd := hEm
      refine b_X8_run_48.go C ⟨trivial, ?_⟩
      refine k_X8_run_49.go C X (k_callOffTheNamed d G1 A1 n F1 K1 L1 I hP R1 hJ1 (Ka, Fa, La) hZ1.symm) (rest := []) rfl rfl rfl (fun _ => ⟨_, _, _, rfl, R1.mn, by decide⟩) (lb rfl) (Rq.of (by omega) (by decide) (by show T - PhK K1 F1 + 0 + (PhK K1 F1 - PhK Ka Fa) ≤ T - PhK E.1 E.2.1; omega) (by show T - PhK K1 F1 + 0 + (PhK K1 F1 - PhK Ka Fa) ≤ T - PhK E.1 E.2.1; omega)) ?_
      rintro r G9 ⟨rfl, Aa, Ra, hAa⟩
      have Ra : KR Y G9 Aa n Fa Ka La := Ra
      rw [← hAa.kt]
      refine V.widen (n' := T - PhK Ka Fa) (k' := T - PhK Ka Fa) (by show T - PhK K1 F1 + 0 + (PhK K1 F1 - PhK Ka Fa) ≤ _; omega) (by show T - PhK K1 F1 + 0 + (PhK K1 F1 - PhK Ka Fa) ≤ _; omega) ?_
      refine b_X8_run_52.go C ⟨trivial, ?_⟩
      refine k_X8_run_53.go C X (k_treatWorksOver d G9 Aa n Fa Ka La I hP h3 Ra x1 (Kb, Fb, Lb) hZ2.symm) (rest := []) rfl rfl rfl (fun _ => ⟨_, _, _, rfl, Ra.mn, by decide⟩) (lb rfl) (Rq.of (by omega) (by decide) (by show T - PhK Ka Fa + (PhK Ka Fa - PhK Kb Fb) ≤ T - PhK E.1 E.2.1; omega) (by show T - PhK Ka Fa + (PhK Ka Fa - PhK Kb Fb) ≤ T - PhK E.1 E.2.1; omega)) ?_
      rintro r G8 ⟨rfl, Ab, Rb, hAb⟩
      have Rb : KR Y G8 Ab n Fb Kb Lb := Rb
      rw [← hAb.kt]
      refine V.widen (n' := T - PhK Kb Fb) (k' := T - PhK Kb Fb) (by show T - PhK Ka Fa + (PhK Ka Fa - PhK Kb Fb) ≤ _; omega) (by show T - PhK Ka Fa + (PhK Ka Fa - PhK Kb Fb) ≤ _; omega) ?_
      refine b_X8_run_56.go C ⟨trivial, ?_⟩
      refine k_X8_run_57.go C X (k_failLimitsDue d G8 Ab n Fb Kb Lb I hP h2 Rb y1 (Kc, Fc', Lc) hZ3.symm) (rest := []) rfl rfl rfl (fun _ => ⟨_, _, _, rfl, Rb.mn, by decide⟩) (lb rfl) (Rq.of (by omega) (by decide) (by show T - PhK Kb Fb + (PhK Kb Fb - PhK Kc Fc') ≤ T - PhK E.1 E.2.1; omega) (by show T - PhK Kb Fb + (PhK Kb Fb - PhK Kc Fc') ≤ T - PhK E.1 E.2.1; omega)) ?_
      rintro r G7 ⟨rfl, Ac, Rc, hAc⟩
      have Rc : KR Y G7 Ac n Fc' Kc Lc := Rc
      rw [← hAc.kt]
      refine V.widen (n' := T - PhK Kc Fc') (k' := T - PhK Kc Fc') (by show T - PhK Kb Fb + (PhK Kb Fb - PhK Kc Fc') ≤ _; omega) (by show T - PhK Kb Fb + (PhK Kb Fb - PhK Kc Fc') ≤ _; omega) ?_
      refine b_X8_run_60.go C ⟨trivial, ?_⟩
      refine k_X8_run_61.go C X (k_endPauses (d + 2) G7 Ac n Fc' Kc Lc I hP h1 Rc z1 (Kd, Fd, Ld) hZ4.symm) (rest := []) rfl rfl rfl (fun _ => ⟨_, _, _, rfl, Rc.mn, by decide⟩) (lb rfl) (Rq.of (by omega) (by decide) (by show T - PhK Kc Fc' + (PhK Kc Fc' - PhK Kd Fd) ≤ T - PhK E.1 E.2.1; omega) (by show T - PhK Kc Fc' + (PhK Kc Fc' - PhK Kd Fd) ≤ T - PhK E.1 E.2.1; omega)) ?_
      rintro r G6 ⟨rfl, Ad, Rd, hAd⟩
      have Rd : KR Y G6 Ad n Fd Kd Ld := Rd
      rw [← hAd.kt]
      exact tl G6 Ad _ _ Kd Fd Ld em Rd ((((hA.tr hAa).tr hAb).tr hAc).tr hAd) (by show T - PhK Kc Fc' + (PhK Kc Fc' - PhK Kd Fd) ≤ _; omega) (by show T - PhK Kc Fc' + (PhK Kc Fc' - PhK Kd Fd) ≤ _; omega)
  have := lp (vj - w0) w0 G A K F L (by omega) hR (AK.rf A) hJ ew (by omega) hE
  rw [hT, Nat.sub_self] at this
  rw [ew]
  exact this
end CLU
