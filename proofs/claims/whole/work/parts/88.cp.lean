/-! the class: task, nested, retry -/
section CP
section MKH
variable {Y : YT} {G : GH} {A : AS} {n F : Nat} {K : MS} {L : KL}
theorem nn2 {q qi z : Nat} {a b : AC} (h : va_up (va_up G q (some a)) qi (some b) z = none) : qi ≠ z ∧ q ≠ z ∧ G z = none := by
  have h1 : qi ≠ z := ne_none up_eq h
  have h2 := (up_ne (Ne.symm h1)).symm.trans h
  have h3 : q ≠ z := ne_none up_eq h2
  exact ⟨h1, h3, (up_ne (Ne.symm h3)).symm.trans h2⟩
def mkHw (G : GH) (A : AS) (q qi qh qp qe : Nat) (c0 : AC) (ls : List Nat) (lh : Nat → Int64) (c1 : AC) : GH := va_up (va_up (va_up (va_up (va_up (va_up G q (some c0)) qi (some (inA A ls))) qh (some (.inl (1, 4, .inr (.inl lh))))) qp (some (.inl (0, 0, .inl (fun _ => 0))))) qe (some (oar 4 0 (fun _ => none)))) q (some c1)
theorem KR.mkW0 (h : KR Y G A n F K L) (hn : n ≤ 200) {q qi qh qp qe : Nat} {c0 : AC} (ls : List Nat) (lh : Nat → Int64) (hls : ∀ u ∈ ls, 1 ≤ u ∧ u ≤ n) (hl : ls.length ≤ 24) (hq : G q = none) (hqi : G qi = none) (d1 : q ≠ qi) (hh : va_up (va_up G q (some c0)) qi (some (inA A ls)) qh = none) (hp : va_up (va_up G q (some c0)) qi (some (inA A ls)) qp = none) (he : va_up (va_up G q (some c0)) qi (some (inA A ls)) qe = none) (d8 : qh ≠ qp) (d9 : qh ≠ qe) (d0 : qp ≠ qe) (form mi kind am : Int32) (hw : decide (nI 1 ≤ form ∧ form ≤ nI 4) = true) : KR Y (mkHw G A q qi qh qp qe c0 ls lh (stC true (begW n form mi kind am) (wkR (stR (fun _ => none) qh qi) qp qe))) (nwA A (n + 1) (Q3 q qi qh qp qe)) (n + 1) F (mkKw K (n + 1) (begW n form mi kind am) ls 0) (upLt L (n + 1) lh) ∧ ∀ a, G a ≠ none → mkHw G A q qi qh qp qe c0 ls lh (stC true (begW n form mi kind am) (wkR (stR (fun _ => none) qh qi) qp qe)) a = G a := by
  obtain ⟨i1, q1, n1⟩ := nn2 hh
  obtain ⟨i2, q2, n2⟩ := nn2 hp
  obtain ⟨i3, q3, n3⟩ := nn2 he
  have hold : ∀ a, G a ≠ none → mkHw G A q qi qh qp qe c0 ls lh (stC true (begW n form mi kind am) (wkR (stR (fun _ => none) qh qi) qp qe)) a = G a := by
    intro a ha
    unfold mkHw
    rw [up_ne (fun z => ha (by rw [z]; exact hq)), up_ne (fun z => ha (by rw [z]; exact n3)), up_ne (fun z => ha (by rw [z]; exact n2)), up_ne (fun z => ha (by rw [z]; exact n1)), up_ne (fun z => ha (by rw [z]; exact hqi)), up_ne (fun z => ha (by rw [z]; exact hq))]
  refine ⟨?_, hold⟩
  refine h.mkW hn ls lh 0 (by omega) hls hl hq hqi n1 n2 n3 d1 q1 q2 q3 i1 i2 i3 d8 d9 d0 (begW n form mi kind am) (wkR (stR (fun _ => none) qh qi) qp qe) hw hold ?_ ?_ ?_ ?_ ?_ rfl rfl rfl rfl rfl rfl
  · unfold mkHw; rw [up_eq]
  · unfold mkHw; rw [up_ne (Ne.symm d1), up_ne i3, up_ne i2, up_ne i1, up_eq]
  · unfold mkHw; rw [up_ne (Ne.symm q1), up_ne d9, up_ne d8, up_eq]
  · unfold mkHw; rw [up_ne (Ne.symm q2), up_ne d0, up_eq]
  · unfold mkHw; rw [up_ne (Ne.symm q3), up_eq]
/-- the same, with the rows of its pauses -/
theorem KR.mkW2 (h : KR Y G A n F K L) (hn : n ≤ 200) {q qi qh qp qe qp2 qe2 : Nat} {c0 c1 : AC} (tm : Nat) (htm : tm ≤ 5) (lh : Nat → Int64) (hq : G q = none) (hqi : G qi = none) (d1 : q ≠ qi) (hh : va_up (va_up G q (some c0)) qi (some (inA A [])) qh = none) (hp : va_up (va_up G q (some c0)) qi (some (inA A [])) qp = none) (he : va_up (va_up G q (some c0)) qi (some (inA A [])) qe = none) (d8 : qh ≠ qp) (d9 : qh ≠ qe) (hp2 : mkHw G A q qi qh qp qe c0 [] lh c1 qp2 = none) (he2 : mkHw G A q qi qh qp qe c0 [] lh c1 qe2 = none) (d02 : qp2 ≠ qe2) (form mi kind am pz : Int32) (hw : decide (nI 1 ≤ form ∧ form ≤ nI 4) = true) : KR Y (va_up (va_up (va_up (mkHw G A q qi qh qp qe c0 [] lh c1) qp2 (some (.inl (0, tm, .inl (fun _ => 0))))) qe2 (some (oar 4 tm (fun _ => none)))) q (some (stC true (upd (begW n form mi kind am) 23 pz) (va_up (va_up (wkR (stR (fun _ => none) qh qi) qp qe) 24 (some qp2)) 25 (some qe2))))) (nwA A (n + 1) (Q3 q qi qh qp2 qe2)) (n + 1) F (mkKw K (n + 1) (upd (begW n form mi kind am) 23 pz) [] tm) (upLt L (n + 1) lh) ∧ ∀ a, G a ≠ none → va_up (va_up (va_up (mkHw G A q qi qh qp qe c0 [] lh c1) qp2 (some (.inl (0, tm, .inl (fun _ => 0))))) qe2 (some (oar 4 tm (fun _ => none)))) q (some (stC true (upd (begW n form mi kind am) 23 pz) (va_up (va_up (wkR (stR (fun _ => none) qh qi) qp qe) 24 (some qp2)) 25 (some qe2)))) a = G a := by
  obtain ⟨i1, q1, n1⟩ := nn2 hh
  obtain ⟨i2, q2, n2⟩ := nn2 hp
  obtain ⟨i3, q3, n3⟩ := nn2 he
  have fr : ∀ z, mkHw G A q qi qh qp qe c0 [] lh c1 z = none → z ≠ q ∧ z ≠ qe ∧ z ≠ qp ∧ z ≠ qh ∧ z ≠ qi ∧ G z = none := by
    intro z hz
    unfold mkHw at hz
    have a1 : q ≠ z := ne_none up_eq hz
    have hz := (up_ne (Ne.symm a1)).symm.trans hz
    have a2 : qe ≠ z := ne_none up_eq hz
    have hz := (up_ne (Ne.symm a2)).symm.trans hz
    have a3 : qp ≠ z := ne_none up_eq hz
    have hz := (up_ne (Ne.symm a3)).symm.trans hz
    have a4 : qh ≠ z := ne_none up_eq hz
    have hz := (up_ne (Ne.symm a4)).symm.trans hz
    obtain ⟨a5, a6, a7⟩ := nn2 hz
    exact ⟨Ne.symm a1, Ne.symm a2, Ne.symm a3, Ne.symm a4, Ne.symm a5, a7⟩
  obtain ⟨b1, b2, b3, b4, b5, b6⟩ := fr _ hp2
  obtain ⟨c1', c2', c3', c4', c5', c6'⟩ := fr _ he2
  have hold : ∀ a, G a ≠ none → va_up (va_up (va_up (mkHw G A q qi qh qp qe c0 [] lh c1) qp2 (some (.inl (0, tm, .inl (fun _ => 0))))) qe2 (some (oar 4 tm (fun _ => none)))) q (some (stC true (upd (begW n form mi kind am) 23 pz) (va_up (va_up (wkR (stR (fun _ => none) qh qi) qp qe) 24 (some qp2)) 25 (some qe2)))) a = G a := by
    intro a ha
    rw [up_ne (fun z => ha (by rw [z]; exact hq)), up_ne (fun z => ha (by rw [z]; exact c6')), up_ne (fun z => ha (by rw [z]; exact b6))]
    unfold mkHw
    rw [up_ne (fun z => ha (by rw [z]; exact hq)), up_ne (fun z => ha (by rw [z]; exact n3)), up_ne (fun z => ha (by rw [z]; exact n2)), up_ne (fun z => ha (by rw [z]; exact n1)), up_ne (fun z => ha (by rw [z]; exact hqi)), up_ne (fun z => ha (by rw [z]; exact hq))]
  refine ⟨?_, hold⟩
  refine h.mkW hn [] lh tm htm (fun u hu => by cases hu) (by simp) hq hqi n1 b6 c6' d1 q1 (Ne.symm b1) (Ne.symm c1') i1 (Ne.symm b5) (Ne.symm c5') (Ne.symm b4) (Ne.symm c4') d02 (upd (begW n form mi kind am) 23 pz) (va_up (va_up (wkR (stR (fun _ => none) qh qi) qp qe) 24 (some qp2)) 25 (some qe2)) hw hold ?_ ?_ ?_ ?_ ?_ rfl rfl rfl rfl rfl rfl
  · rw [up_eq]
  · rw [up_ne (Ne.symm d1), up_ne (Ne.symm c5'), up_ne (Ne.symm b5)]
    unfold mkHw; rw [up_ne (Ne.symm d1), up_ne i3, up_ne i2, up_ne i1, up_eq]
  · rw [up_ne (Ne.symm q1), up_ne (Ne.symm c4'), up_ne (Ne.symm b4)]
    unfold mkHw; rw [up_ne (Ne.symm q1), up_ne d9, up_ne d8, up_eq]
  · rw [up_ne b1, up_ne d02, up_eq]
  · rw [up_ne c1', up_eq]
end MKH
variable {l : Launch} {Y : YT}
/-- what a new work needs of the lists -/
def rd0 (K : MS) (n : Nat) : Prop := LOk K n 0 ∧ (lsL K 0).length ≤ 300
theorem wk_isWK {K : MS} {t tm : Nat} {σ : Nat → Int32} {ls : List Nat} (ht : t < 1000) (hw : decide (nI 1 ≤ σ 1 ∧ σ 1 ≤ nI 4) = true) : isWK (mkKw K t σ ls tm) t = true := by
  unfold isWK mkKw
  rw [stg_s ht (by decide) (by decide), if_neg (by decide), if_neg (by decide), if_neg (by decide)]
  exact hw
set_option maxHeartbeats 2000000 in
theorem k_task (d : Nat) (G : GH) (A : AS) (n F : Nat) (K : MS) (L : KL) (v w a : Int32) (P9 : Nat) (hR : KR Y G A n F K L) (hm : mdK K n n) (hrd : rd0 K n) (hP9 : (iwB v (nI 1) w = true) → n < 200 → P9 = PhK (owK (mkKw K (n + 1) (begW n (nI 1) (v) (w) (a)) [] 0) (n + 1)) F) : Cd l yX8_task cX8_task 4 (some .int) (d + 11) (110 + (PhK K F - P9)) (110 + (PhK K F - P9)) Y [.inr (.inr (some (A 0 0))), .inl v, .inl w, .inl a] G (fun r G' => (¬ (iwB v (nI 1) w = true) ∧ r = some (.inl (-1)) ∧ KR Y G' A n F K L) ∨ ((iwB v (nI 1) w = true) ∧ n = 200 ∧ r = some (.inl (-2)) ∧ KR Y G' A n F K L) ∨ ((iwB v (nI 1) w = true) ∧ n < 200 ∧ r = some (.inl (nI (n + 1))) ∧ ∃ A', KR Y G' A' (n + 1) F (owK (mkKw K (n + 1) (begW n (nI 1) (v) (w) (a)) [] 0) (n + 1)) (upLt L (n + 1) (hgN L (n + 1) [])) ∧ A' 0 0 = A 0 0)) := by
  refine Ct.of (ini := False) (by decide +kernel) False.elim rfl (Nat.le_of_ble_eq_true rfl) ?_
  intro p e s m args below meth c C X
  have no : ¬ (iwB v (nI 1) w = true) → ∀ (x0 : Option AV), V p l e (RM (d + 11) (110 + (PhK K F - P9)) (110 + (PhK K F - P9))) s m args below meth c Y (GA G s.heap.size) (QM below args s (RM (d + 11) (110 + (PhK K F - P9)) (110 + (PhK K F - P9))) Y G (fun r G' => (¬ (iwB v (nI 1) w = true) ∧ r = some (.inl (-1)) ∧ KR Y G' A n F K L) ∨ ((iwB v (nI 1) w = true) ∧ n = 200 ∧ r = some (.inl (-2)) ∧ KR Y G' A n F K L) ∨ ((iwB v (nI 1) w = true) ∧ n < 200 ∧ r = some (.inl (nI (n + 1))) ∧ ∃ A', KR Y G' A' (n + 1) F (owK (mkKw K (n + 1) (begW n (nI 1) (v) (w) (a)) [] 0) (n + 1)) (upLt L (n + 1) (hgN L (n + 1) [])) ∧ A' 0 0 = A 0 0))) 9 G 0 0 [some (.inr (.inr (some (A 0 0)))), some (.inl v), some (.inl w), some (.inl a)] [] := by
    intro h x0
    refine b_X8_task_9.go C ⟨trivial, ?_⟩
    exact V_iret C X d_X8_task_10 (Nat.zero_le _) (Nat.zero_le _) (Or.inl ⟨h, rfl, hR⟩)
  refine b_X8_task_0.go C ⟨trivial, ?_⟩
  refine k_X8_task_3.go C X (k_isWork (d + 9) G v (nI 1) w) (rest := []) rfl rfl rfl (fun h => absurd rfl h) (lb rfl) (Rq.of (by omega) (by decide) (Nat.zero_le _) (Nat.zero_le _)) ?_
  rintro r G9 ⟨h9, rfl⟩
  replace h9 := h9.symm
  subst h9
  refine b_X8_task_6.go C ⟨fun h6 => ⟨trivial, ?_⟩, fun h6 => ⟨trivial, ?_⟩⟩
  rotate_left
  · exact no (fun z => by rw [show iwB v (nI 1) w = false from bI_0 h6] at z; cases z) none
  have hok : iwB v (nI 1) w = true := bI_1 h6
  have hls : ∀ u ∈ ([] : List Nat), 1 ≤ u ∧ u ≤ n := fun u hu => by cases hu
  have hl24 : ([] : List Nat).length ≤ 24 := by simp
  have hn := hm.2.2.1
  refine b_X8_task_11.go C ⟨(by show _ ≤ 110 + (PhK K F - P9); omega), (by show _ ≤ 110 + (PhK K F - P9); omega), fun q hq => ?_⟩
  have R1 := hR.fresh hq (stC true (fun _ => 0) (fun _ => none))
  refine ⟨_, R1.mn, nI (n + 1), (congrArg (· + nI 1) hm.1).trans (nI_1 _), trivial, ?_⟩
  refine kx_task_23.go C X (k_inputsOf0 (d + 10) _ A) (rest := [.inl (nI 1), .inl (nI (n + 1)), .inr (.inr (some q)), .inr (.inr (some q)), .inr (.inr (some (A 0 0)))]) rfl rfl rfl (fun h => absurd rfl h) rfl (lb rfl) (Rq.of (by omega) (by decide) (by show _ ≤ 110 + (PhK K F - P9); omega) (by show _ ≤ 110 + (PhK K F - P9); omega)) ?_
  rintro r G9 ⟨qi, hqi, rfl, rfl⟩
  have d1 : q ≠ qi := ne_none up_eq hqi
  have hqi' : G qi = none := (up_ne (Ne.symm d1)).symm.trans hqi
  have R2 := R1.fresh hqi (inA A [])
  refine b_X8_task_26.go C ⟨trivial, ?_⟩
  refine k_X8_task_29.go C X (k_WorkInit d _ A n F K L q qi (n + 1) (fun _ => 0) (fun _ => none) (nI 1) (v) (w) (a) [] R2 ((up_ne d1).trans up_eq) (oth_none hR hq) up_eq hls hl24 (by omega)) (rest := [.inr (.inr (some q)), .inr (.inr (some (A 0 0)))]) rfl rfl rfl (fun _ => ⟨_, _, _, rfl, (up_ne d1).trans up_eq, by decide⟩) (lb rfl) (Rq.of (by omega) (by decide) (by show _ ≤ 110 + (PhK K F - P9); omega) (by show _ ≤ 110 + (PhK K F - P9); omega)) ?_
  rintro r G8 ⟨rfl, qh, qp, qe, hqh, hqp, hqe, d8, d9, d0, rfl⟩
  obtain ⟨R3, hold⟩ := hR.mkW0 hn [] (hgN L (n + 1) []) hls hl24 hq hqi' d1 hqh hqp hqe d8 d9 d0 (nI 1) (v) (w) (a) (by decide +kernel)
  have eA0 : nwA A (n + 1) (Q3 q qi qh qp qe) 0 0 = A 0 0 := nwA_n (by omega)
  have eA1 : nwA A (n + 1) (Q3 q qi qh qp qe) 1 (n + 1) = q := nwA_s (Or.inl rfl)
  have e0 : (mkKw K (n + 1) (begW n (nI 1) (v) (w) (a)) [] 0) 0 0 = nI n := (stg_o (by omega) (by omega) (by omega) (by omega)).trans hm.1
  have e10 : (mkKw K (n + 1) (begW n (nI 1) (v) (w) (a)) [] 0) 10 (n + 1) = nI (n + 1) := by unfold mkKw; rw [stg_s (by omega) (by decide) (by decide), if_neg (by decide), if_neg (by decide), if_neg (by decide)]; rfl
  have eph : PhK (mkKw K (n + 1) (begW n (nI 1) (v) (w) (a)) [] 0) F = PhK K F := PhK_stg (by omega)
  generalize hA1 : nwA A (n + 1) (Q3 q qi qh qp qe) = A1 at *
  by_cases h200 : n = 200
  · have ko := k_openWorkF (l := l) d _ A1 (n + 1) F _ _ q R3 (e0.trans (by rw [h200]))
    rw [eA0] at ko
    refine k_X8_task_32.go C X ko (rest := []) rfl rfl rfl (fun _ => ⟨_, _, _, rfl, by have := R3.mn; rw [eA0] at this; exact this, by decide⟩) (lb rfl) (Rq.of (by omega) (by decide) (by show _ ≤ 110 + (PhK K F - P9); omega) (by show _ ≤ 110 + (PhK K F - P9); omega)) ?_
    rintro r G7 ⟨rfl, h7⟩
    replace h7 := h7.symm
    subst h7
    exact V_iret C X d_X8_task_35 (by show _ ≤ 110 + (PhK K F - P9); omega) (by show _ ≤ 110 + (PhK K F - P9); omega) (Or.inr (Or.inl ⟨hok, h200, rfl, hR.hold hold⟩))
  · have eL : ∀ f i9, isLs f → (mkKw K (n + 1) (begW n (nI 1) (v) (w) (a)) [] 0) f i9 = K f i9 := stg_ls (by omega)
    have ko := k_openWork (l := l) d _ A1 F _ _ n R3 e0 (inK_stg hl24 (by omega) hls (by omega)) (by omega) e10 (wk_isWK (by omega) (show decide (nI 1 ≤ nI 1 ∧ nI 1 ≤ nI 4) = true by decide +kernel)) (LOk_e (by decide) eL (LOk_n hrd.1)) (by rw [lsL_e (by decide) eL]; exact hrd.2)
    rw [eA0, eA1, eph] at ko
    have h9 := hP9 hok (by omega)
    refine k_X8_task_32.go C X ko (rest := []) rfl rfl rfl (fun _ => ⟨_, _, _, rfl, by have := R3.mn; rw [eA0] at this; exact this, by decide⟩) (lb rfl) (Rq.of (by omega) (by decide) (by show _ ≤ 110 + (PhK K F - P9); omega) (by show _ ≤ 110 + (PhK K F - P9); omega)) ?_
    rintro r G7 ⟨rfl, A7, R7, hA7⟩
    exact V_iret C X d_X8_task_35 (by show _ ≤ 110 + (PhK K F - P9); omega) (by show _ ≤ 110 + (PhK K F - P9); omega) (Or.inr (Or.inr ⟨hok, by omega, rfl, A7, R7, hA7.kt.trans eA0⟩))
def nstP (K : MS) (v w u : Int32) : Prop := (nI 1 ≤ u ∧ u ≤ K 0 0) ∧ iwB v (nI 2) w = true
set_option maxHeartbeats 2000000 in
theorem k_nested (d : Nat) (G : GH) (A : AS) (n F : Nat) (K : MS) (L : KL) (v w a u : Int32) (P9 : Nat) (hR : KR Y G A n F K L) (hm : mdK K n n) (hrd : rd0 K n) (hP9 : nstP K v w u → n < 200 → P9 = PhK (owK (mkKw K (n + 1) (begW n (nI 3) (v) (w) (a)) [u.toNatClampNeg] 0) (n + 1)) F) : Cd l yX8_nested cX8_nested 6 (some .int) (d + 11) (110 + (PhK K F - P9)) (110 + (PhK K F - P9)) Y [.inr (.inr (some (A 0 0))), .inl v, .inl w, .inl a, .inl u] G (fun r G' => (¬ nstP K v w u ∧ r = some (.inl (-1)) ∧ KR Y G' A n F K L) ∨ (nstP K v w u ∧ n = 200 ∧ r = some (.inl (-2)) ∧ KR Y G' A n F K L) ∨ (nstP K v w u ∧ n < 200 ∧ r = some (.inl (nI (n + 1))) ∧ ∃ A', KR Y G' A' (n + 1) F (owK (mkKw K (n + 1) (begW n (nI 3) (v) (w) (a)) [u.toNatClampNeg] 0) (n + 1)) (upLt L (n + 1) (hgN L (n + 1) [u.toNatClampNeg])) ∧ A' 0 0 = A 0 0)) := by
  refine Ct.of (ini := False) (by decide +kernel) False.elim rfl (Nat.le_of_ble_eq_true rfl) ?_
  intro p e s m args below meth c C X
  have no : ¬ nstP K v w u → ∀ (x0 : Option AV), V p l e (RM (d + 11) (110 + (PhK K F - P9)) (110 + (PhK K F - P9))) s m args below meth c Y (GA G s.heap.size) (QM below args s (RM (d + 11) (110 + (PhK K F - P9)) (110 + (PhK K F - P9))) Y G (fun r G' => (¬ nstP K v w u ∧ r = some (.inl (-1)) ∧ KR Y G' A n F K L) ∨ (nstP K v w u ∧ n = 200 ∧ r = some (.inl (-2)) ∧ KR Y G' A n F K L) ∨ (nstP K v w u ∧ n < 200 ∧ r = some (.inl (nI (n + 1))) ∧ ∃ A', KR Y G' A' (n + 1) F (owK (mkKw K (n + 1) (begW n (nI 3) (v) (w) (a)) [u.toNatClampNeg] 0) (n + 1)) (upLt L (n + 1) (hgN L (n + 1) [u.toNatClampNeg])) ∧ A' 0 0 = A 0 0))) 22 G 0 0 [some (.inr (.inr (some (A 0 0)))), some (.inl v), some (.inl w), some (.inl a), some (.inl u), x0] [] := by
    intro h x0
    refine b_X8_nested_22.go C ⟨trivial, ?_⟩
    exact V_iret C X d_X8_nested_23 (Nat.zero_le _) (Nat.zero_le _) (Or.inl ⟨h, rfl, hR⟩)
  refine b_X8_nested_0.go C ⟨trivial, ?_⟩
  refine k_X8_nested_3.go C X (k_find (d + 9) G A n F K L u n hR hm) (rest := []) rfl rfl rfl (fun _ => ⟨_, _, _, rfl, hR.mn, by decide⟩) (lb rfl) (Rq.of (by omega) (by decide) (Nat.zero_le _) (Nat.zero_le _)) ?_
  rintro r G9 ⟨h9, rfl⟩
  replace h9 := h9.symm
  subst h9
  by_cases hs : nI 1 ≤ u ∧ u ≤ K 0 0
  rotate_left
  · rw [if_neg hs]
    refine b_X8_nested_6.go C ⟨fun _ => ⟨trivial, ?_⟩, fun _ h => by cases h⟩
    exact no (fun z => hs z.1) _
  have hs0 := hs
  obtain ⟨j, hj1, hj2, rfl⟩ := sT hm hs
  have h2000 := hm.2.2.1
  have ej : (nI j).toNatClampNeg = j := nI_clamp (by omega)
  rw [ej] at no hP9 ⊢
  rw [if_pos hs0]
  refine b_X8_nested_6.go C ⟨fun h => (by cases h), fun _ _ => ⟨trivial, ?_⟩⟩
  refine b_X8_nested_13.go C ⟨trivial, ?_⟩
  refine k_X8_nested_16.go C X (k_isWork (d + 9) G v (nI 2) w) (rest := []) rfl rfl rfl (fun h => absurd rfl h) (lb rfl) (Rq.of (by omega) (by decide) (Nat.zero_le _) (Nat.zero_le _)) ?_
  rintro r G9 ⟨h9, rfl⟩
  replace h9 := h9.symm
  subst h9
  refine b_X8_nested_19.go C ⟨fun h6 => ⟨trivial, ?_⟩, fun h6 => ⟨trivial, ?_⟩⟩
  rotate_left
  · exact no (fun z => by have z2 := z.2; rw [show iwB v (nI 2) w = false from bI_0 h6] at z2; cases z2) _
  have hok : nstP K v w (nI j) := ⟨hs0, bI_1 h6⟩
  have hls : ∀ u ∈ [j], 1 ≤ u ∧ u ≤ n := fun u hu => by rw [List.mem_singleton.mp hu]; exact ⟨hj1, hj2⟩
  have hl24 : [j].length ≤ 24 := by simp
  have hn := hm.2.2.1
  refine b_X8_nested_24.go C ⟨(by show _ ≤ 110 + (PhK K F - P9); omega), (by show _ ≤ 110 + (PhK K F - P9); omega), fun q hq => ?_⟩
  have R1 := hR.fresh hq (stC true (fun _ => 0) (fun _ => none))
  refine ⟨_, R1.mn, nI (n + 1), (congrArg (· + nI 1) hm.1).trans (nI_1 _), trivial, ?_⟩
  refine kx_nested_38.go C X (k_inputsOf1 (d + 10) _ A n F K L j R1 ⟨hj1, hj2⟩) (rest := [.inl (nI 3), .inl (nI (n + 1)), .inr (.inr (some q)), .inr (.inr (some q)), .inr (.inr (some (A 0 0)))]) rfl rfl rfl (fun h => absurd rfl h) rfl (lb rfl) (Rq.of (by omega) (by decide) (by show _ ≤ 110 + (PhK K F - P9); omega) (by show _ ≤ 110 + (PhK K F - P9); omega)) ?_
  rintro r G9 ⟨qi, hqi, rfl, rfl⟩
  have d1 : q ≠ qi := ne_none up_eq hqi
  have hqi' : G qi = none := (up_ne (Ne.symm d1)).symm.trans hqi
  have R2 := R1.fresh hqi (inA A [j])
  refine b_X8_nested_41.go C ⟨trivial, ?_⟩
  refine k_X8_nested_44.go C X (k_WorkInit d _ A n F K L q qi (n + 1) (fun _ => 0) (fun _ => none) (nI 3) (v) (w) (a) [j] R2 ((up_ne d1).trans up_eq) (oth_none hR hq) up_eq hls hl24 (by omega)) (rest := [.inr (.inr (some q)), .inr (.inr (some (A 0 0)))]) rfl rfl rfl (fun _ => ⟨_, _, _, rfl, (up_ne d1).trans up_eq, by decide⟩) (lb rfl) (Rq.of (by omega) (by decide) (by show _ ≤ 110 + (PhK K F - P9); omega) (by show _ ≤ 110 + (PhK K F - P9); omega)) ?_
  rintro r G8 ⟨rfl, qh, qp, qe, hqh, hqp, hqe, d8, d9, d0, rfl⟩
  obtain ⟨R3, hold⟩ := hR.mkW0 hn [j] (hgN L (n + 1) [j]) hls hl24 hq hqi' d1 hqh hqp hqe d8 d9 d0 (nI 3) (v) (w) (a) (by decide +kernel)
  have eA0 : nwA A (n + 1) (Q3 q qi qh qp qe) 0 0 = A 0 0 := nwA_n (by omega)
  have eA1 : nwA A (n + 1) (Q3 q qi qh qp qe) 1 (n + 1) = q := nwA_s (Or.inl rfl)
  have e0 : (mkKw K (n + 1) (begW n (nI 3) (v) (w) (a)) [j] 0) 0 0 = nI n := (stg_o (by omega) (by omega) (by omega) (by omega)).trans hm.1
  have e10 : (mkKw K (n + 1) (begW n (nI 3) (v) (w) (a)) [j] 0) 10 (n + 1) = nI (n + 1) := by unfold mkKw; rw [stg_s (by omega) (by decide) (by decide), if_neg (by decide), if_neg (by decide), if_neg (by decide)]; rfl
  have eph : PhK (mkKw K (n + 1) (begW n (nI 3) (v) (w) (a)) [j] 0) F = PhK K F := PhK_stg (by omega)
  generalize hA1 : nwA A (n + 1) (Q3 q qi qh qp qe) = A1 at *
  by_cases h200 : n = 200
  · have ko := k_openWorkF (l := l) d _ A1 (n + 1) F _ _ q R3 (e0.trans (by rw [h200]))
    rw [eA0] at ko
    refine k_X8_nested_47.go C X ko (rest := []) rfl rfl rfl (fun _ => ⟨_, _, _, rfl, by have := R3.mn; rw [eA0] at this; exact this, by decide⟩) (lb rfl) (Rq.of (by omega) (by decide) (by show _ ≤ 110 + (PhK K F - P9); omega) (by show _ ≤ 110 + (PhK K F - P9); omega)) ?_
    rintro r G7 ⟨rfl, h7⟩
    replace h7 := h7.symm
    subst h7
    exact V_iret C X d_X8_nested_50 (by show _ ≤ 110 + (PhK K F - P9); omega) (by show _ ≤ 110 + (PhK K F - P9); omega) (Or.inr (Or.inl ⟨hok, h200, rfl, hR.hold hold⟩))
  · have eL : ∀ f i9, isLs f → (mkKw K (n + 1) (begW n (nI 3) (v) (w) (a)) [j] 0) f i9 = K f i9 := stg_ls (by omega)
    have ko := k_openWork (l := l) d _ A1 F _ _ n R3 e0 (inK_stg hl24 (by omega) hls (by omega)) (by omega) e10 (wk_isWK (by omega) (show decide (nI 1 ≤ nI 3 ∧ nI 3 ≤ nI 4) = true by decide +kernel)) (LOk_e (by decide) eL (LOk_n hrd.1)) (by rw [lsL_e (by decide) eL]; exact hrd.2)
    rw [eA0, eA1, eph] at ko
    have h9 := hP9 hok (by omega)
    refine k_X8_nested_47.go C X ko (rest := []) rfl rfl rfl (fun _ => ⟨_, _, _, rfl, by have := R3.mn; rw [eA0] at this; exact this, by decide⟩) (lb rfl) (Rq.of (by omega) (by decide) (by show _ ≤ 110 + (PhK K F - P9); omega) (by show _ ≤ 110 + (PhK K F - P9); omega)) ?_
    rintro r G7 ⟨rfl, A7, R7, hA7⟩
    exact V_iret C X d_X8_nested_50 (by show _ ≤ 110 + (PhK K F - P9); omega) (by show _ ≤ 110 + (PhK K F - P9); omega) (Or.inr (Or.inr ⟨hok, by omega, rfl, A7, R7, hA7.kt.trans eA0⟩))
def rtyP (v w t9 pz : Int32) : Prop := iwB v (nI 1) w = true ∧ (nI 0 ≤ t9 ∧ t9 ≤ nI 5) ∧ (nI 1 ≤ pz ∧ pz ≤ nI 30)
set_option maxHeartbeats 2000000 in
theorem k_retry (d : Nat) (G : GH) (A : AS) (n F : Nat) (K : MS) (L : KL) (v w a t9 pz : Int32) (P9 : Nat) (hR : KR Y G A n F K L) (hm : mdK K n n) (hrd : rd0 K n) (hP9 : rtyP v w t9 pz → n < 200 → P9 = PhK (owK (mkKw K (n + 1) (upd (begW n (nI 2) (v) (w) (a)) 23 pz) [] t9.toNatClampNeg) (n + 1)) F) : Cd l yX8_retry cX8_retry 7 (some .int) (d + 11) (110 + (PhK K F - P9)) (110 + (PhK K F - P9)) Y [.inr (.inr (some (A 0 0))), .inl v, .inl w, .inl a, .inl t9, .inl pz] G (fun r G' => (¬ rtyP v w t9 pz ∧ r = some (.inl (-1)) ∧ KR Y G' A n F K L) ∨ (rtyP v w t9 pz ∧ n = 200 ∧ r = some (.inl (-2)) ∧ KR Y G' A n F K L) ∨ (rtyP v w t9 pz ∧ n < 200 ∧ r = some (.inl (nI (n + 1))) ∧ ∃ A', KR Y G' A' (n + 1) F (owK (mkKw K (n + 1) (upd (begW n (nI 2) (v) (w) (a)) 23 pz) [] t9.toNatClampNeg) (n + 1)) (upLt L (n + 1) (hgN L (n + 1) [])) ∧ A' 0 0 = A 0 0)) := by
  refine Ct.of (ini := False) (by decide +kernel) False.elim rfl (Nat.le_of_ble_eq_true rfl) ?_
  intro p e s m args below meth c C X
  have no : ¬ rtyP v w t9 pz → ∀ (x0 : Option AV), V p l e (RM (d + 11) (110 + (PhK K F - P9)) (110 + (PhK K F - P9))) s m args below meth c Y (GA G s.heap.size) (QM below args s (RM (d + 11) (110 + (PhK K F - P9)) (110 + (PhK K F - P9))) Y G (fun r G' => (¬ rtyP v w t9 pz ∧ r = some (.inl (-1)) ∧ KR Y G' A n F K L) ∨ (rtyP v w t9 pz ∧ n = 200 ∧ r = some (.inl (-2)) ∧ KR Y G' A n F K L) ∨ (rtyP v w t9 pz ∧ n < 200 ∧ r = some (.inl (nI (n + 1))) ∧ ∃ A', KR Y G' A' (n + 1) F (owK (mkKw K (n + 1) (upd (begW n (nI 2) (v) (w) (a)) 23 pz) [] t9.toNatClampNeg) (n + 1)) (upLt L (n + 1) (hgN L (n + 1) [])) ∧ A' 0 0 = A 0 0))) 30 G 0 0 [some (.inr (.inr (some (A 0 0)))), some (.inl v), some (.inl w), some (.inl a), some (.inl t9), some (.inl pz), x0] [] := by
    intro h x0
    refine b_X8_retry_30.go C ⟨trivial, ?_⟩
    exact V_iret C X d_X8_retry_31 (Nat.zero_le _) (Nat.zero_le _) (Or.inl ⟨h, rfl, hR⟩)
  refine b_X8_retry_0.go C ⟨trivial, ?_⟩
  refine k_X8_retry_3.go C X (k_isWork (d + 9) G v (nI 1) w) (rest := []) rfl rfl rfl (fun h => absurd rfl h) (lb rfl) (Rq.of (by omega) (by decide) (Nat.zero_le _) (Nat.zero_le _)) ?_
  rintro r G9 ⟨h9, rfl⟩
  replace h9 := h9.symm
  subst h9
  refine b_X8_retry_6.go C ⟨fun h6 => ⟨trivial, ?_⟩, fun h6 => ⟨trivial, ?_⟩⟩
  · exact no (fun z => by have z1 := z.1; rw [show iwB v (nI 1) w = false from bI_0 h6] at z1; cases z1) _
  have h6 : iwB v (nI 1) w = true := bI_1 h6
  refine b_X8_retry_9.go C ⟨trivial, ?_⟩
  refine k_X8_retry_13.go C X (c_isWithin (d + 10) G t9 (nI 0) (nI 5)) (rest := []) rfl rfl rfl (fun h => absurd rfl h) (lb rfl) (Rq.of (by omega) (by decide) (Nat.zero_le _) (Nat.zero_le _)) ?_
  rintro r G9 ⟨h9, rfl⟩
  replace h9 := h9.symm
  subst h9
  refine b_X8_retry_16.go C ⟨fun h16 => ⟨trivial, ?_⟩, fun h16 => ⟨trivial, ?_⟩⟩
  · exact no (fun z => wi_0 h16 z.2.1) _
  have h16 := wi_1 h16
  refine b_X8_retry_19.go C ⟨trivial, ?_⟩
  refine k_X8_retry_24.go C X (c_isWithin (d + 10) G pz (nI 1) (nI 30)) (rest := []) rfl rfl rfl (fun h => absurd rfl h) (lb rfl) (Rq.of (by omega) (by decide) (Nat.zero_le _) (Nat.zero_le _)) ?_
  rintro r G9 ⟨h9, rfl⟩
  replace h9 := h9.symm
  subst h9
  refine b_X8_retry_27.go C ⟨fun h27 => ⟨trivial, ?_⟩, fun h27 => ⟨trivial, ?_⟩⟩
  rotate_left
  · exact no (fun z => wi_0 h27 z.2.2) _
  have hok : rtyP v w t9 pz := ⟨h6, h16, wi_1 h27⟩
  obtain ⟨tm, -, htm, rfl⟩ := in_of (a := 0) (b := 5) (by decide) h16 (by decide)
  have etm : (nI tm).toNatClampNeg = tm := nI_clamp (by omega)
  rw [etm] at hP9 ⊢
  have hls : ∀ u ∈ ([] : List Nat), 1 ≤ u ∧ u ≤ n := fun u hu => by cases hu
  have hl24 : ([] : List Nat).length ≤ 24 := by simp
  have hn := hm.2.2.1
  refine b_X8_retry_32.go C ⟨(by show _ ≤ 110 + (PhK K F - P9); omega), (by show _ ≤ 110 + (PhK K F - P9); omega), fun q hq => ?_⟩
  have R1 := hR.fresh hq (stC true (fun _ => 0) (fun _ => none))
  refine ⟨_, R1.mn, nI (n + 1), (congrArg (· + nI 1) hm.1).trans (nI_1 _), trivial, ?_⟩
  refine k_X8_retry_43.go C X (k_inputsOf0 (d + 10) _ A) (rest := [.inl (nI 2), .inl (nI (n + 1)), .inr (.inr (some q)), .inr (.inr (some q))]) rfl rfl rfl (fun h => absurd rfl h) (lb rfl) (Rq.of (by omega) (by decide) (by show _ ≤ 110 + (PhK K F - P9); omega) (by show _ ≤ 110 + (PhK K F - P9); omega)) ?_
  rintro r G9 ⟨qi, hqi, rfl, rfl⟩
  have d1 : q ≠ qi := ne_none up_eq hqi
  have hqi' : G qi = none := (up_ne (Ne.symm d1)).symm.trans hqi
  have R2 := R1.fresh hqi (inA A [])
  refine b_X8_retry_46.go C ⟨trivial, ?_⟩
  refine k_X8_retry_49.go C X (k_WorkInit d _ A n F K L q qi (n + 1) (fun _ => 0) (fun _ => none) (nI 2) (v) (w) (a) [] R2 ((up_ne d1).trans up_eq) (oth_none hR hq) up_eq hls hl24 (by omega)) (rest := [.inr (.inr (some q))]) rfl rfl rfl (fun _ => ⟨_, _, _, rfl, (up_ne d1).trans up_eq, by decide⟩) (lb rfl) (Rq.of (by omega) (by decide) (by show _ ≤ 110 + (PhK K F - P9); omega) (by show _ ≤ 110 + (PhK K F - P9); omega)) ?_
  rintro r G8 ⟨rfl, qh, qp, qe, hqh, hqp, hqe, d8, d9, d0, rfl⟩
  have hw0 : decide (nI 1 ≤ nI 2 ∧ nI 2 ≤ nI 4) = true := by decide +kernel
  refine b_X8_retry_52.go C ⟨trivial, ?_⟩
  refine k_X8_retry_60.go C X (k_allowPauses (d + 10) (mkHw G A q qi qh qp qe (stC true (fun _ => 0) (fun _ => none)) [] (hgN L (n + 1) []) (stC true (begW n (nI 2) (v) (w) (a)) (wkR (stR (fun _ => none) qh qi) qp qe))) q tm pz (begW n (nI 2) (v) (w) (a)) (wkR (stR (fun _ => none) qh qi) qp qe) up_eq htm) (rest := []) rfl rfl rfl (fun _ => ⟨_, _, _, rfl, up_eq, by decide⟩) (lb rfl) (Rq.of (by omega) (by decide) (by show _ ≤ 110 + (PhK K F - P9); omega) (by show _ ≤ 110 + (PhK K F - P9); omega)) ?_
  rintro r G7 ⟨rfl, qp2, qe2, hqp2, hqe2, d02, rfl⟩
  obtain ⟨R3, hold⟩ := hR.mkW2 hn tm htm (hgN L (n + 1) []) hq hqi' d1 hqh hqp hqe d8 d9 hqp2 hqe2 d02 (nI 2) (v) (w) (a) pz hw0
  refine b_X8_retry_63.go C ⟨trivial, ?_⟩
  have eA0 : nwA A (n + 1) (Q3 q qi qh qp2 qe2) 0 0 = A 0 0 := nwA_n (by omega)
  have eA1 : nwA A (n + 1) (Q3 q qi qh qp2 qe2) 1 (n + 1) = q := nwA_s (Or.inl rfl)
  have e0 : (mkKw K (n + 1) (upd (begW n (nI 2) (v) (w) (a)) 23 pz) [] tm) 0 0 = nI n := (stg_o (by omega) (by omega) (by omega) (by omega)).trans hm.1
  have e10 : (mkKw K (n + 1) (upd (begW n (nI 2) (v) (w) (a)) 23 pz) [] tm) 10 (n + 1) = nI (n + 1) := by unfold mkKw; rw [stg_s (by omega) (by decide) (by decide), if_neg (by decide), if_neg (by decide), if_neg (by decide)]; rfl
  have eph : PhK (mkKw K (n + 1) (upd (begW n (nI 2) (v) (w) (a)) 23 pz) [] tm) F = PhK K F := PhK_stg (by omega)
  generalize hA1 : nwA A (n + 1) (Q3 q qi qh qp2 qe2) = A1 at *
  by_cases h200 : n = 200
  · have ko := k_openWorkF (l := l) d _ A1 (n + 1) F _ _ q R3 (e0.trans (by rw [h200]))
    rw [eA0] at ko
    refine k_X8_retry_66.go C X ko (rest := []) rfl rfl rfl (fun _ => ⟨_, _, _, rfl, by have := R3.mn; rw [eA0] at this; exact this, by decide⟩) (lb rfl) (Rq.of (by omega) (by decide) (by show _ ≤ 110 + (PhK K F - P9); omega) (by show _ ≤ 110 + (PhK K F - P9); omega)) ?_
    rintro r G7 ⟨rfl, h7⟩
    replace h7 := h7.symm
    subst h7
    exact V_iret C X d_X8_retry_69 (by show _ ≤ 110 + (PhK K F - P9); omega) (by show _ ≤ 110 + (PhK K F - P9); omega) (Or.inr (Or.inl ⟨hok, h200, rfl, hR.hold hold⟩))
  · have eL : ∀ f i9, isLs f → (mkKw K (n + 1) (upd (begW n (nI 2) (v) (w) (a)) 23 pz) [] tm) f i9 = K f i9 := stg_ls (by omega)
    have ko := k_openWork (l := l) d _ A1 F _ _ n R3 e0 (inK_stg hl24 (by omega) hls (by omega)) (by omega) e10 (wk_isWK (by omega) (show decide (nI 1 ≤ nI 2 ∧ nI 2 ≤ nI 4) = true by decide +kernel)) (LOk_e (by decide) eL (LOk_n hrd.1)) (by rw [lsL_e (by decide) eL]; exact hrd.2)
    rw [eA0, eA1, eph] at ko
    have h9 := hP9 hok (by omega)
    refine k_X8_retry_66.go C X ko (rest := []) rfl rfl rfl (fun _ => ⟨_, _, _, rfl, by have := R3.mn; rw [eA0] at this; exact this, by decide⟩) (lb rfl) (Rq.of (by omega) (by decide) (by show _ ≤ 110 + (PhK K F - P9); omega) (by show _ ≤ 110 + (PhK K F - P9); omega)) ?_
    rintro r G7 ⟨rfl, A7, R7, hA7⟩
    exact V_iret C X d_X8_retry_69 (by show _ ≤ 110 + (PhK K F - P9); omega) (by show _ ≤ 110 + (PhK K F - P9); omega) (Or.inr (Or.inr ⟨hok, by omega, rfl, A7, R7, hA7.kt.trans eA0⟩))
end CP
