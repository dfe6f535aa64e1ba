/-! the class: settle, upmost, plans, pauses, result -/
section CLH
section PUT2
variable {Y : YT} {G : GH} {A : AS} {n F : Nat} {K : MS} {L : KL}
theorem up2_row (K : MS) (f j : Nat) (v : Int32) : up2 K f j v f = upd (K f) j v := by simp [up2]
theorem isR_pe {i : Nat} (h : i < 1000) : isSR (2000 + i) = false ∧ isFR (2000 + i) = false := ⟨decide_eq_false (by omega), decide_eq_false (by omega)⟩
theorem KR.pe1 (h : KR Y G A n F K L) {i : Nat} (hi : 1 ≤ i ∧ i ≤ n) (hw : isWK K i = true) (p : Nat) (v : Int32) : KR Y (va_up G (A 4 i) (some (.inl (0, nN K 34 i, .inl (upd (K (2000 + i)) p v))))) A n F (up2 K (2000 + i) p v) L := by
  have hn := h.2.2.1
  have h1 := h.put1 (k := 4) (i := i) (f := 2000 + i) (j := p) ⟨hi, hw⟩ v (own_4 p (by omega)) (by omega) (by omega) (fun q => by rw [(isR_pe (by omega)).1] at q; cases q) (fun q => by rw [(isR_pe (by omega)).2] at q; cases q)
  have e : cel Y A (up2 K (2000 + i) p v) L 4 i = .inl (0, nN K 34 i, .inl (upd (K (2000 + i)) p v)) := by
    show (Sum.inl (0, nN (up2 K (2000 + i) p v) 34 i, Sum.inl (up2 K (2000 + i) p v (2000 + i))) : AC) = _
    rw [up2_row, nN, up2_f (by omega)]; rfl
  rw [e] at h1; exact h1
theorem KR.er1 (h : KR Y G A n F K L) {i : Nat} (hi : 1 ≤ i ∧ i ≤ n) (hw : isWK K i = true) (p : Nat) (v : Int32) (hv : v.toNatClampNeg ≤ F) : KR Y (va_up G (A 5 i) (some (oar 4 (nN K 35 i) (fun j => dec A 6 (upd (K (3000 + i)) p v j))))) A n F (up2 K (3000 + i) p v) L := by
  have hn := h.2.2.1
  have h1 := h.put1 (k := 5) (i := i) (f := 3000 + i) (j := p) ⟨hi, hw⟩ v (own_5 p (by omega)) (by omega) (by omega) (fun q => by have := of_decide_eq_true q; omega) (fun _ => hv)
  have e : cel Y A (up2 K (3000 + i) p v) L 5 i = oar 4 (nN K 35 i) (fun j => dec A 6 (upd (K (3000 + i)) p v j)) := by
    show oar 4 (nN (up2 K (3000 + i) p v) 35 i) (fun j => dec A 6 (up2 K (3000 + i) p v (3000 + i) j)) = _
    rw [up2_row, nN, up2_f (by omega)]; rfl
  rw [e] at h1; exact h1
theorem KR.plr (h : KR Y G A n F K L) (r : Nat) (v w z : Int32) : KR Y (va_up (va_up (va_up G (A 12 0) (some (.inl (0, 64, .inl (upd (K 71) r v))))) (A 13 0) (some (.inl (0, 64, .inl (upd (K 72) r w))))) (A 14 0) (some (.inl (0, 64, .inl (upd (K 73) r z))))) A n F (up2 (up2 (up2 K 71 r v) 72 r w) 73 r z) L := by
  have h1 := h.put1 (k := 12) (i := 0) (f := 71) (j := r) ⟨by decide, rfl⟩ v rfl (by decide) (by decide) (fun q => by cases q) (fun q => by cases q)
  have h2 := h1.put1 (k := 13) (i := 0) (f := 72) (j := r) ⟨by decide, rfl⟩ w rfl (by decide) (by decide) (fun q => by cases q) (fun q => by cases q)
  have h3 := h2.put1 (k := 14) (i := 0) (f := 73) (j := r) ⟨by decide, rfl⟩ z rfl (by decide) (by decide) (fun q => by cases q) (fun q => by cases q)
  have e1 : cel Y A (up2 K 71 r v) L 12 0 = .inl (0, 64, .inl (upd (K 71) r v)) := by
    show (Sum.inl (0, 64, Sum.inl (up2 K 71 r v 71)) : AC) = _
    rw [up2_row]
  have e2 : cel Y A (up2 (up2 K 71 r v) 72 r w) L 13 0 = .inl (0, 64, .inl (upd (K 72) r w)) := by
    show (Sum.inl (0, 64, Sum.inl (up2 (up2 K 71 r v) 72 r w 72)) : AC) = _
    rw [up2_row, up2_f (by decide)]
  have e3 : cel Y A (up2 (up2 (up2 K 71 r v) 72 r w) 73 r z) L 14 0 = .inl (0, 64, .inl (upd (K 73) r z)) := by
    show (Sum.inl (0, 64, Sum.inl (up2 (up2 (up2 K 71 r v) 72 r w) 73 r z 73)) : AC) = _
    rw [up2_row, up2_f (by decide), up2_f (by decide)]
  rw [e1, e2, e3] at h3
  exact h3
end PUT2
variable {l : Launch} {Y : YT}
def rulR (K : MS) (i : Nat) : Rs := match nN K 11 i with | 5 => thenR K i | 6 => bthR K i | 7 => frsR K i | 8 => allR K i | 9 => anyQ K i | 10 => onfR K i | 11 => alwR K i | 12 => frsR K i | _ => rsN
/-- what a stage's rule asks -/
def rlOk (K : MS) (n F i : Nat) : Prop := K 11 i = nI (nN K 11 i) ∧ nN K 11 i ≤ 12 ∧ (5 ≤ nN K 11 i → upK K n i) ∧ (K 13 i = nI (nN K 13 i) ∧ nN K 13 i ≤ 15 ∧ (nN K 11 i = 5 ∨ nN K 11 i = 6 → nN K 13 i ≤ 4)) ∧ (nN K 11 i = 9 → K 14 i = nI (nN K 14 i) ∧ 1 ≤ nN K 14 i ∧ nN K 14 i ≤ nN K 12 i) ∧ flK K n F ∧ F + 1 ≤ 2000
set_option maxHeartbeats 1000000 in
theorem k_settle (d : Nat) (G : GH) (A : AS) (n F : Nat) (K : MS) (L : KL) (i0 : Nat) (hR : KR Y G A n F K L) (hi : 1 ≤ i0 ∧ i0 ≤ n) (hok : rlOk K n F i0) : Cd l yX5_settle cX5_settle 1 none (d + 4) ((rsC (rulR K i0))) ((rsC (rulR K i0))) Y [.inr (.inr (some (A 1 i0)))] G (fun r G' => r = none ∧ SP Y G' A n F K L i0 (rulR K i0)) := by
  refine Ct.of (ini := False) (by decide +kernel) False.elim rfl (Nat.le_of_ble_eq_true rfl) ?_
  intro p e s m args below meth c C X
  obtain ⟨g1, g2, g3, ⟨g4, g5, g6⟩, g7, g8, g9⟩ := hok
  have ti : (nI (nN K 11 i0)).toInt = (nN K 11 i0 : Int) := nI_toInt (by omega)
  refine b_X5_settle_0.go C ⟨_, _, hR.st hi, stC_ci _, fun h0 => ⟨trivial, ?_⟩, fun j tgt hj ht => ⟨trivial, ?_⟩⟩
  · replace h0 : (K 11 i0).toInt < 5 ∨ 12 < (K 11 i0).toInt := h0
    rw [g1, ti] at h0
    have er : rulR K i0 = rsN := by
      unfold rulR
      split <;> first | omega | rfl
    exact V_vret C X d_X5_settle_101 (by show _ ≤ ((rsC (rulR K i0))); omega) (by show _ ≤ ((rsC (rulR K i0))); omega) ⟨rfl, by rw [er]; exact SP.no hR i0⟩
  · replace hj : (K 11 i0).toInt = 5 + j := hj
    rw [g1, ti] at hj
    have hup := g3 (by omega)
    rcases j with _ | _ | _ | _ | _ | _ | _ | _ | j
    · cases ht
      have ef : nN K 11 i0 = 5 := by omega
      have er : rulR K i0 = thenR K i0 := by unfold rulR; rw [ef]; rfl
      refine b_X5_settle_52.go C ⟨trivial, ?_⟩
      refine k_X5_settle_53.go C X (k_settleThen d G A n F K L i0 _ hR hi hup g4 (g6 (by omega)) g9) (rest := []) rfl rfl rfl (fun h => absurd rfl h) (lb rfl) (Rq.of (by omega) (by decide) (by show _ ≤ rsC (rulR K i0); rw [er]; omega) (by show _ ≤ rsC (rulR K i0); rw [er]; omega)) ?_
      rintro r G9 ⟨rfl, hS⟩
      refine b_X5_settle_56.go C ⟨trivial, ?_⟩
      exact V_vret C X d_X5_settle_101 (by show _ ≤ rsC (rulR K i0); rw [er]; omega) (by show _ ≤ rsC (rulR K i0); rw [er]; omega) ⟨rfl, by rw [er]; exact hS⟩
    · cases ht
      have ef : nN K 11 i0 = 6 := by omega
      have er : rulR K i0 = bthR K i0 := by unfold rulR; rw [ef]; rfl
      refine b_X5_settle_59.go C ⟨trivial, ?_⟩
      refine k_X5_settle_60.go C X (k_settleBoth (d + 1) G A n F K L i0 _ hR hi hup g4 (g6 (by omega))) (rest := []) rfl rfl rfl (fun h => absurd rfl h) (lb rfl) (Rq.of (by omega) (by decide) (Nat.zero_le _) (Nat.zero_le _)) ?_
      rintro r G9 ⟨rfl, hS⟩
      refine b_X5_settle_63.go C ⟨trivial, ?_⟩
      exact V_vret C X d_X5_settle_101 (by show _ ≤ ((rsC (rulR K i0))); omega) (by show _ ≤ ((rsC (rulR K i0))); omega) ⟨rfl, by rw [er]; exact hS⟩
    · cases ht
      have ef : nN K 11 i0 = 7 := by omega
      have er : rulR K i0 = frsR K i0 := by unfold rulR; rw [ef]; rfl
      refine b_X5_settle_66.go C ⟨trivial, ?_⟩
      refine k_X5_settle_67.go C X (k_settleFirst (d + 2) G A n F K L i0 hR hi hup) (rest := []) rfl rfl rfl (fun h => absurd rfl h) (lb rfl) (Rq.of (by omega) (by decide) (Nat.zero_le _) (Nat.zero_le _)) ?_
      rintro r G9 ⟨rfl, hS⟩
      refine b_X5_settle_70.go C ⟨trivial, ?_⟩
      exact V_vret C X d_X5_settle_101 (by show _ ≤ ((rsC (rulR K i0))); omega) (by show _ ≤ ((rsC (rulR K i0))); omega) ⟨rfl, by rw [er]; exact hS⟩
    · cases ht
      have ef : nN K 11 i0 = 8 := by omega
      have er : rulR K i0 = allR K i0 := by unfold rulR; rw [ef]; rfl
      refine b_X5_settle_73.go C ⟨trivial, ?_⟩
      refine k_X5_settle_74.go C X (k_settleAll (d + 1) G A n F K L i0 hR hi hup) (rest := []) rfl rfl rfl (fun h => absurd rfl h) (lb rfl) (Rq.of (by omega) (by decide) (Nat.zero_le _) (Nat.zero_le _)) ?_
      rintro r G9 ⟨rfl, hS⟩
      refine b_X5_settle_77.go C ⟨trivial, ?_⟩
      exact V_vret C X d_X5_settle_101 (by show _ ≤ ((rsC (rulR K i0))); omega) (by show _ ≤ ((rsC (rulR K i0))); omega) ⟨rfl, by rw [er]; exact hS⟩
    · cases ht
      have ef : nN K 11 i0 = 9 := by omega
      have er : rulR K i0 = anyQ K i0 := by unfold rulR; rw [ef]; rfl
      obtain ⟨w1, w2, w3⟩ := g7 ef
      refine b_X5_settle_80.go C ⟨trivial, ?_⟩
      refine k_X5_settle_81.go C X (k_settleAny d G A n F K L i0 _ hR hi hup w1 w2 w3 g8 g9) (rest := []) rfl rfl rfl (fun h => absurd rfl h) (lb rfl) (Rq.of (by omega) (by decide) (by show _ ≤ rsC (rulR K i0); rw [er]; omega) (by show _ ≤ rsC (rulR K i0); rw [er]; omega)) ?_
      rintro r G9 ⟨rfl, hS⟩
      refine b_X5_settle_84.go C ⟨trivial, ?_⟩
      exact V_vret C X d_X5_settle_101 (by show _ ≤ rsC (rulR K i0); rw [er]; omega) (by show _ ≤ rsC (rulR K i0); rw [er]; omega) ⟨rfl, by rw [er]; exact hS⟩
    · cases ht
      have ef : nN K 11 i0 = 10 := by omega
      have er : rulR K i0 = onfR K i0 := by unfold rulR; rw [ef]; rfl
      refine b_X5_settle_87.go C ⟨trivial, ?_⟩
      refine k_X5_settle_88.go C X (k_settleOnFailure (d + 2) G A n F K L i0 _ hR hi hup g4 g5 g8) (rest := []) rfl rfl rfl (fun h => absurd rfl h) (lb rfl) (Rq.of (by omega) (by decide) (Nat.zero_le _) (Nat.zero_le _)) ?_
      rintro r G9 ⟨rfl, hS⟩
      refine b_X5_settle_91.go C ⟨trivial, ?_⟩
      exact V_vret C X d_X5_settle_101 (by show _ ≤ ((rsC (rulR K i0))); omega) (by show _ ≤ ((rsC (rulR K i0))); omega) ⟨rfl, by rw [er]; exact hS⟩
    · cases ht
      have ef : nN K 11 i0 = 11 := by omega
      have er : rulR K i0 = alwR K i0 := by unfold rulR; rw [ef]; rfl
      refine b_X5_settle_94.go C ⟨trivial, ?_⟩
      refine k_X5_settle_95.go C X (k_settleAlways (d + 1) G A n F K L i0 hR hi hup g8 g9) (rest := []) rfl rfl rfl (fun h => absurd rfl h) (lb rfl) (Rq.of (by omega) (by decide) (by show _ ≤ rsC (rulR K i0); rw [er]; omega) (by show _ ≤ rsC (rulR K i0); rw [er]; omega)) ?_
      rintro r G9 ⟨rfl, hS⟩
      refine b_X5_settle_98.go C ⟨trivial, ?_⟩
      exact V_vret C X d_X5_settle_101 (by show _ ≤ rsC (rulR K i0); rw [er]; omega) (by show _ ≤ rsC (rulR K i0); rw [er]; omega) ⟨rfl, by rw [er]; exact hS⟩
    · cases ht
      have ef : nN K 11 i0 = 12 := by omega
      have er : rulR K i0 = frsR K i0 := by unfold rulR; rw [ef]; rfl
      refine b_X5_settle_66.go C ⟨trivial, ?_⟩
      refine k_X5_settle_67.go C X (k_settleFirst (d + 2) G A n F K L i0 hR hi hup) (rest := []) rfl rfl rfl (fun h => absurd rfl h) (lb rfl) (Rq.of (by omega) (by decide) (Nat.zero_le _) (Nat.zero_le _)) ?_
      rintro r G9 ⟨rfl, hS⟩
      refine b_X5_settle_70.go C ⟨trivial, ?_⟩
      exact V_vret C X d_X5_settle_101 (by show _ ≤ ((rsC (rulR K i0))); omega) (by show _ ≤ ((rsC (rulR K i0))); omega) ⟨rfl, by rw [er]; exact hS⟩
    · cases ht
/-- the upmost of list c, 0 if there is none -/
def upmK (K : MS) (c : Nat) : Nat := (lsL K c)[(lsL K c).length - 1]?.getD 0
set_option maxHeartbeats 1000000 in
theorem k_upmost (d : Nat) (G : GH) (A : AS) (n F : Nat) (K : MS) (L : KL) (c0 : Nat) (hR : KR Y G A n F K L) (hc : 1 ≤ c0 ∧ c0 ≤ 12) (hl : LOk K n c0) (hw : ∀ u ∈ lsL K c0, isWK K u = true) : Cd l yX1_upmost cX1_upmost 1 (some (.object "PromiseKitchen$Work")) (d + 3) 0 0 Y [.inr (.inr (some (A 8 c0)))] G (fun r G' => G' = G ∧ r = some (.inr (.inr (opS A (upmK K c0))))) := by
  refine Ct.of (ini := False) (by decide +kernel) False.elim rfl (Nat.le_of_ble_eq_true rfl) ?_
  intro p e s m args below meth c C X
  have hn := hR.2.2.1
  have hcp := hl.2.2.1
  have hlc := hl.2.1
  refine b_X1_upmost_0.go C ⟨_, hR.ck (by omega), trivial, ?_⟩
  refine k_X1_upmost_4.go C X (c_isEmpty (d + 2) G (A 9 c0) _ _ _ (hR.ls (by omega) hl) (by omega)) (rest := []) rfl rfl rfl (fun _ => ⟨_, _, _, rfl, hR.1 9 c0 (show c0 ≤ 13 by omega), by decide⟩) (lb rfl) (Rq.of (by omega) (by decide) (Nat.le_refl _) (Nat.le_refl _)) ?_
  rintro r G9 ⟨h9, rfl⟩
  replace h9 := h9.symm
  subst h9
  refine b_X1_upmost_7.go C ⟨fun h7 => ⟨trivial, ?_⟩, fun h7 => ⟨trivial, ?_⟩⟩
  rotate_left
  · have h1 : (lsL K c0).length = 0 := by simpa using bI_1 h7
    have e0 : upmK K c0 = 0 := by rw [upmK, List.eq_nil_of_length_eq_zero h1]; rfl
    refine b_X1_upmost_10.go C ⟨trivial, ?_⟩
    exact V_aret C X (Or.inl ⟨_, rfl⟩) d_X1_upmost_33 (Nat.zero_le _) (Nat.zero_le _) ⟨rfl, by rw [e0]; rfl⟩
  have h1 : ¬ (lsL K c0).length = 0 := by
    have := bI_0 h7
    simpa using this
  rcases hl.2.2.2.1 with ⟨h4, h5⟩ | ⟨h4, h5, h6⟩
  · omega
  have hea : eaK Y A K c0 = A 10 c0 := by rw [eaK, if_neg h5]
  have hrow : G (A 10 c0) = some (oar 6 (cpK K c0) (fun j => dec A 1 (K (4000 + c0) j))) := by
    rcases hR.le (by omega) hl with ⟨h8, -⟩ | ⟨h8, -⟩
    · omega
    · rw [hea] at h8; exact h8
  have hls := hR.ls (by omega) hl
  rw [hea] at hls
  have hu : 1 ≤ upmK K c0 ∧ upmK K c0 ≤ n := ⟨el_lt hl.2.2.2.2.1 (by omega), el_le hl.2.2.2.2.1 hn _⟩
  have hget : dec A 1 (K (4000 + c0) ((lsL K c0).length - 1)) = some (A 1 (upmK K c0)) := hR.lget hl (by omega)
  have hwk : isWK K (upmK K c0) = true := hw _ (by
    unfold upmK
    rw [List.getElem?_eq_getElem (by omega)]
    exact List.getElem_mem _)
  refine b_X1_upmost_14.go C ⟨_, hR.ck (by omega), _, hR.ck (by omega), trivial, ?_⟩
  refine k_X1_upmost_22.go C X (c_size (d + 2) G (A 9 c0) _ _ _ hls) (rest := [.inr (.inr (some (A 9 c0)))]) rfl rfl rfl (fun _ => ⟨_, _, _, rfl, hR.1 9 c0 (show c0 ≤ 13 by omega), by decide⟩) (lb rfl) (Rq.of (by omega) (by decide) (Nat.le_refl _) (Nat.le_refl _)) ?_
  rintro r G9 ⟨h9, rfl⟩
  replace h9 := h9.symm
  subst h9
  refine b_X1_upmost_25.go C ⟨_, pk_sub (by omega), trivial, ?_⟩
  refine k_X1_upmost_27.go C X (c_get d G (A 9 c0) (A 10 c0) _ (cpK K c0) ((lsL K c0).length - 1) _ _ hls hrow (by omega) hlc (by omega)) (rest := []) rfl rfl rfl (fun _ => ⟨_, _, _, rfl, hR.1 9 c0 (show c0 ≤ 13 by omega), by decide⟩) (lb rfl) (Rq.of (by omega) (by decide) (Nat.le_refl _) (Nat.le_refl _)) ?_
  rintro r G9 ⟨h9, rfl⟩
  replace h9 := h9.symm
  subst h9
  rw [hget]
  refine b_X1_upmost_30.go C ⟨fun a9 h9 => by cases h9; exact ⟨_, _, hR.wk hu hwk, by decide⟩, trivial, ?_⟩
  exact V_aret C X (Or.inl ⟨_, rfl⟩) d_X1_upmost_33 (Nat.zero_le _) (Nat.zero_le _) ⟨rfl, by rw [opS_s (by omega)]⟩
/-- the plans: so many -/
def plK (K : MS) : Prop := K 70 0 = nI (nN K 70 0) ∧ nN K 70 0 ≤ 64
theorem plK.pl {G : GH} {A : AS} {n F : Nat} {K : MS} {L : KL} (h : plK K) (hR : KR Y G A n F K L) : plG G (A 11 0) (A 12 0) (A 13 0) (A 14 0) (nN K 70 0) (K 71) (K 72) (K 73) := ⟨by rw [← h.1]; exact hR.pl, hR.plw, hR.plt, hR.plk, h.2⟩
def prwK (K : MS) (w t : Int32) : Nat := prow (K 71) (K 72) w t (nN K 70 0) 0
def kndK (K : MS) (w t : Int32) : Int32 := if prwK K w t < nN K 70 0 then K 73 (prwK K w t) else -1
theorem prow_le (fw ft : Nat → Int32) (w t : Int32) : ∀ (q k : Nat), prow fw ft w t q k ≤ k + q
  | 0, k => by unfold prow; omega
  | q + 1, k => by
    have := prow_le fw ft w t q (k + 1)
    unfold prow
    split <;> omega
theorem k_kindFor (d : Nat) (G : GH) (A : AS) (n F : Nat) (K : MS) (L : KL) (w t : Int32) (hR : KR Y G A n F K L) (hp : plK K) : Cd l yX4_kindFor cX4_kindFor 4 (some .int) (d + 1) 0 0 Y [.inr (.inr (some (A 11 0))), .inl w, .inl t] G (fun r G' => G' = G ∧ r = some (.inl (kndK K w t))) := by
  refine Ct.of (ini := False) (by decide +kernel) False.elim rfl (Nat.le_of_ble_eq_true rfl) ?_
  intro p e s m args below meth c C X
  have hq := hp.2
  have hle := prow_le (K 71) (K 72) w t (nN K 70 0) 0
  refine b_X4_kindFor_0.go C ⟨trivial, ?_⟩
  refine k_X4_kindFor_3.go C X (c_rowOf d G (A 11 0) (A 12 0) (A 13 0) (A 14 0) (nN K 70 0) (K 71) (K 72) (K 73) w t (hp.pl hR)) (rest := []) rfl rfl rfl (fun _ => ⟨_, _, _, rfl, hR.pl, by decide⟩) (lb rfl) (Rq.of (by omega) (by decide) (Nat.le_refl _) (Nat.le_refl _)) ?_
  rintro r G9 ⟨h9, rfl⟩
  replace h9 := h9.symm
  subst h9
  have hle : prwK K w t ≤ nN K 70 0 := by unfold prwK; omega
  refine b_X4_kindFor_6.go C ⟨_, hR.pl, fun h6 => ⟨trivial, ?_⟩, fun h6 => ⟨trivial, ?_⟩⟩
  · have h1 : nN K 70 0 ≤ prwK K w t := (nI_leI (by omega) (by omega)).mp (by have h9 : (K 70 0 ≤ nI (prwK K w t)) := h6; rw [hp.1] at h9; exact h9)
    refine b_X4_kindFor_24.go C ⟨trivial, ?_⟩
    exact V_iret C X d_X4_kindFor_25 (Nat.zero_le _) (Nat.zero_le _) ⟨rfl, by rw [kndK, if_neg (by omega)]⟩
  have h1 : prwK K w t < nN K 70 0 := Nat.lt_of_not_le (fun q9 => absurd (nI_le q9 (by omega)) (by have h9 : ¬ (K 70 0 ≤ nI (prwK K w t)) := h6; rw [hp.1] at h9; exact h9))
  refine b_X4_kindFor_15.go C ⟨_, hR.pl, _, _, hR.plk, prwK K w t, rfl, by show prwK K w t < 64; omega, lb rfl, _, rfl, trivial, ?_⟩
  exact V_iret C X d_X4_kindFor_25 (Nat.zero_le _) (Nat.zero_le _) ⟨rfl, by rw [kndK, if_pos h1]⟩
def putB (K : MS) (w t : Int32) : Bool := decide (prwK K w t < 64)
def putK (K : MS) (w t k : Int32) : MS := if prwK K w t < 64 then up2 (up2 (up2 (up2 K 71 (prwK K w t) w) 72 (prwK K w t) t) 73 (prwK K w t) k) 70 0 (nI (max (nN K 70 0) (prwK K w t + 1))) else K
set_option maxHeartbeats 1000000 in
theorem k_put (d : Nat) (G : GH) (A : AS) (n F : Nat) (K : MS) (L : KL) (w t k9 : Int32) (hR : KR Y G A n F K L) (hp : plK K) : Cd l yX4_put cX4_put 5 (some .boolean) (d + 1) 0 0 Y [.inr (.inr (some (A 11 0))), .inl w, .inl t, .inl k9] G (fun r G' => KR Y G' A n F (putK K w t k9) L ∧ r = some (.inl (bI (putB K w t)))) := by
  refine Ct.of (ini := False) (by decide +kernel) False.elim rfl (Nat.le_of_ble_eq_true rfl) ?_
  intro p e s m args below meth c C X
  have hq := hp.2
  have hle := prow_le (K 71) (K 72) w t (nN K 70 0) 0
  refine b_X4_put_0.go C ⟨trivial, ?_⟩
  refine k_X4_put_3.go C X (c_rowOf d G (A 11 0) (A 12 0) (A 13 0) (A 14 0) (nN K 70 0) (K 71) (K 72) (K 73) w t (hp.pl hR)) (rest := []) rfl rfl rfl (fun _ => ⟨_, _, _, rfl, hR.pl, by decide⟩) (lb rfl) (Rq.of (by omega) (by decide) (Nat.le_refl _) (Nat.le_refl _)) ?_
  rintro r G9 ⟨h9, rfl⟩
  replace h9 := h9.symm
  subst h9
  have hle : prwK K w t ≤ nN K 70 0 := by unfold prwK; omega
  refine b_X4_put_6.go C ⟨fun h6 => ⟨trivial, ?_⟩, fun h6 => ⟨trivial, ?_⟩⟩
  rotate_left
  · have h1 : 64 ≤ prwK K w t := Nat.le_of_not_lt (fun q9 => absurd (nI_lt q9 (by omega)) h6)
    refine b_X4_put_15.go C ⟨trivial, ?_⟩
    exact V_zret C X d_X4_put_16 z0 (Nat.zero_le _) (Nat.zero_le _) ⟨by rw [putK, if_neg (by omega)]; exact hR, by rw [putB, decide_eq_false (by omega)]; rfl⟩
  have h1 : prwK K w t < 64 := Nat.lt_of_not_le (fun q9 => absurd h6 (nI_nlt q9 (by omega)))
  have R1 := hR.plr (prwK K w t) w t k9
  have R2 := R1.l70 (nI (max (nN K 70 0) (prwK K w t + 1)))
  have n12 : A 12 0 ≠ A 13 0 := fun z => absurd (hR.2.1 12 0 13 0 ⟨by decide, rfl⟩ ⟨by decide, rfl⟩ z).1 (by decide)
  have n13 : A 12 0 ≠ A 14 0 := fun z => absurd (hR.2.1 12 0 14 0 ⟨by decide, rfl⟩ ⟨by decide, rfl⟩ z).1 (by decide)
  have n23 : A 13 0 ≠ A 14 0 := fun z => absurd (hR.2.1 13 0 14 0 ⟨by decide, rfl⟩ ⟨by decide, rfl⟩ z).1 (by decide)
  have m2 : A 11 0 ≠ A 12 0 := fun z => absurd (hR.2.1 11 0 12 0 ⟨by decide, rfl⟩ ⟨by decide, rfl⟩ z).1 (by decide)
  have m3 : A 11 0 ≠ A 13 0 := fun z => absurd (hR.2.1 11 0 13 0 ⟨by decide, rfl⟩ ⟨by decide, rfl⟩ z).1 (by decide)
  have m4 : A 11 0 ≠ A 14 0 := fun z => absurd (hR.2.1 11 0 14 0 ⟨by decide, rfl⟩ ⟨by decide, rfl⟩ z).1 (by decide)
  refine b_X4_put_17.go C ⟨_, hR.pl, _, _, hR.plw, prwK K w t, rfl, h1, lb rfl, _, (up_ne m2).trans hR.pl, _, _, (up_ne (Ne.symm n12)).trans hR.plt, prwK K w t, rfl, h1, lb rfl, _, (up_ne m3).trans ((up_ne m2).trans hR.pl), _, _, (up_ne (Ne.symm n23)).trans ((up_ne (Ne.symm n13)).trans hR.plk), prwK K w t, rfl, h1, lb rfl, _, (up_ne m4).trans ((up_ne m3).trans ((up_ne m2).trans hR.pl)), _, nI_add _ _, trivial, ?_⟩
  rw [hp.1]
  refine k_X4_put_50.go C X (c_max d _ (nI (nN K 70 0)) (nI (prwK K w t + 1))) (rest := [.inr (.inr (some (A 11 0)))]) rfl rfl rfl (fun h => absurd rfl h) (lb rfl) (Rq.of (by omega) (by decide) (Nat.le_refl _) (Nat.le_refl _)) ?_
  rintro r G9 ⟨h9, rfl⟩
  replace h9 := h9.symm
  subst h9
  have em : (if nI (nN K 70 0) < nI (prwK K w t + 1) then nI (prwK K w t + 1) else nI (nN K 70 0)) = nI (max (nN K 70 0) (prwK K w t + 1)) := by
    by_cases h : nN K 70 0 < prwK K w t + 1
    · rw [if_pos (nI_lt h (by omega)), Nat.max_eq_right (by omega)]
    · rw [if_neg (nI_nlt (by omega) (by omega)), Nat.max_eq_left (by omega)]
  rw [em]
  refine b_X4_put_53.go C ⟨_, R1.pl, trivial, ?_⟩
  exact V_zret C X d_X4_put_57 z1 (Nat.zero_le _) (Nat.zero_le _) ⟨by rw [putK, if_pos h1]; exact R2, by rw [putB, decide_eq_true h1]; rfl⟩
/-- may the work i pause? -/
def mpB (K : MS) (i : Nat) : Bool := decide (nN K 32 i < nN K 34 i ∧ nN K 32 i < nN K 35 i)
/-- what its pauses must be like -/
def pzOk (K : MS) (i : Nat) : Prop := K 32 i = nI (nN K 32 i) ∧ nN K 32 i ≤ 5 ∧ nN K 34 i ≤ 5 ∧ nN K 35 i ≤ 5
theorem k_mayPause (d : Nat) (G : GH) (A : AS) (n F : Nat) (K : MS) (L : KL) (i0 : Nat) (hR : KR Y G A n F K L) (hi : 1 ≤ i0 ∧ i0 ≤ n) (hw : isWK K i0 = true) (hp : pzOk K i0) : Cd l yX7_mayPause cX7_mayPause 1 (some .boolean) d 0 0 Y [.inr (.inr (some (A 1 i0)))] G (fun r G' => G' = G ∧ r = some (.inl (bI (mpB K i0)))) := by
  refine Ct.of (ini := False) (by decide +kernel) False.elim rfl (Nat.le_of_ble_eq_true rfl) ?_
  intro p e s m args below meth c C X
  obtain ⟨p1, p2, p3, p4⟩ := hp
  have no : mpB K i0 = false → V p l e (RM d 0 0) s m args below meth c Y (GA G s.heap.size) (QM below args s (RM d 0 0) Y G (fun r G' => G' = G ∧ r = some (.inl (bI (mpB K i0))))) 28 G 0 0 [some (.inr (.inr (some (A 1 i0))))] [] := by
    intro h
    refine b_X7_mayPause_28.go C ⟨trivial, ?_⟩
    exact V_zret C X d_X7_mayPause_29 z0 (Nat.zero_le _) (Nat.zero_le _) ⟨rfl, by rw [h]; rfl⟩
  refine b_X7_mayPause_0.go C ⟨_, hR.wk (by omega) hw, _, hR.wk (by omega) hw, nN K 34 i0, Or.inl ⟨0, _, by decide, hR.pe (by omega) hw⟩, fun h0 => ⟨trivial, ?_⟩, fun h0 => ⟨trivial, ?_⟩⟩
  · have h1 : nN K 34 i0 ≤ nN K 32 i0 := (nI_leI (by omega) (by omega)).mp (by have h9 : (nI (nN K 34 i0) ≤ K 32 i0) := h0; rw [p1] at h9; exact h9)
    exact no (decide_eq_false (by omega))
  have h1 : nN K 32 i0 < nN K 34 i0 := Nat.lt_of_not_le (fun q9 => absurd (nI_le q9 (by omega)) (by have h9 : ¬ (nI (nN K 34 i0) ≤ K 32 i0) := h0; rw [p1] at h9; exact h9))
  refine b_X7_mayPause_12.go C ⟨_, hR.wk (by omega) hw, _, hR.wk (by omega) hw, nN K 35 i0, Or.inl ⟨4, _, by decide, hR.er (by omega) hw⟩, fun h12 => ⟨trivial, ?_⟩, fun h12 => ⟨trivial, ?_⟩⟩
  · have h2 : nN K 35 i0 ≤ nN K 32 i0 := (nI_leI (by omega) (by omega)).mp (by have h9 : (nI (nN K 35 i0) ≤ K 32 i0) := h12; rw [p1] at h9; exact h9)
    exact no (decide_eq_false (by omega))
  have h2 : nN K 32 i0 < nN K 35 i0 := Nat.lt_of_not_le (fun q9 => absurd (nI_le q9 (by omega)) (by have h9 : ¬ (nI (nN K 35 i0) ≤ K 32 i0) := h12; rw [p1] at h9; exact h9))
  refine b_X7_mayPause_24.go C ⟨trivial, ?_⟩
  exact V_zret C X d_X7_mayPause_29 z1 (Nat.zero_le _) (Nat.zero_le _) ⟨rfl, by rw [mpB, decide_eq_true ⟨h1, h2⟩]; rfl⟩
/-- the work i pauses from minute x on, after failure f -/
def bpO (K : MS) (i : Nat) (x : Int32) : Int32 := x + (K 33 i <<< (K 32 i &&& 31))
def bpK (K : MS) (i : Nat) (x : Int32) (f : Nat) : MS := up2 (up2 (up2 (up2 (up2 K 25 i (bpO K i x)) (2000 + i) (nN K 32 i) (bpO K i x)) (3000 + i) (nN K 32 i) (nI f)) 32 i (nI (nN K 32 i + 1))) 16 i (nI 4)
set_option maxHeartbeats 1000000 in
theorem k_beginPause (d : Nat) (G : GH) (A : AS) (n F : Nat) (K : MS) (L : KL) (i0 f9 : Nat) (x : Int32) (hR : KR Y G A n F K L) (hi : 1 ≤ i0 ∧ i0 ≤ n) (hw : isWK K i0 = true) (hp : pzOk K i0) (hm : mpB K i0 = true) (hf : 1 ≤ f9 ∧ f9 ≤ F) : Cd l yX7_beginPause cX7_beginPause 3 none (d + 1) 0 0 Y [.inr (.inr (some (A 1 i0))), .inl x, .inr (.inr (some (A 6 f9)))] G (fun r G' => r = none ∧ KR Y G' A n F (bpK K i0 x f9) L) := by
  refine Ct.of (ini := False) (by decide +kernel) False.elim rfl (Nat.le_of_ble_eq_true rfl) ?_
  intro p e s m args below meth c C X
  have hn := hR.2.2.1
  have hF := hR.2.2.2.1
  have hp0 := hp
  obtain ⟨p1, p2, p3, p4⟩ := hp
  obtain ⟨m1, m2⟩ := of_decide_eq_true hm
  refine b_X7_beginPause_0.go C ⟨trivial, ?_⟩
  refine k_X7_beginPause_1.go C X (k_mayPause d G A n F K L i0 hR hi hw hp0) (rest := []) rfl rfl rfl (fun _ => ⟨_, _, _, rfl, hR.wk (by omega) hw, by decide⟩) (lb rfl) (Rq.of (by omega) (by decide) (Nat.le_refl _) (Nat.le_refl _)) ?_
  rintro r G9 ⟨h9, rfl⟩
  replace h9 := h9.symm
  subst h9
  rw [hm]
  refine b_X7_beginPause_4.go C ⟨fun _ => ⟨trivial, ?_⟩, fun h => absurd h (by decide +kernel)⟩
  have d14 : A 1 i0 ≠ A 4 i0 := fun z => absurd (hR.2.1 1 i0 4 i0 hi ⟨hi, hw⟩ z).1 (by decide)
  have d15 : A 1 i0 ≠ A 5 i0 := fun z => absurd (hR.2.1 1 i0 5 i0 hi ⟨hi, hw⟩ z).1 (by decide)
  have d45 : A 5 i0 ≠ A 4 i0 := fun z => absurd (hR.2.1 5 i0 4 i0 ⟨hi, hw⟩ ⟨hi, hw⟩ z).1 (by decide)
  have R1 := hR.pW hi hw 15 (bpO K i0 x) rfl
  have w1 : isWK (up2 K 25 i0 (bpO K i0 x)) i0 = true := hw
  have R2 := R1.pe1 hi w1 (nN K 32 i0) (bpO K i0 x)
  rw [show up2 K (10 + 15) i0 (bpO K i0 x) (2000 + i0) = K (2000 + i0) from up2_f (by omega)] at R2
  have w2 : isWK (up2 (up2 K 25 i0 (bpO K i0 x)) (2000 + i0) (nN K 32 i0) (bpO K i0 x)) i0 = true := by
    unfold isWK; rw [up2_f (by omega)]; exact hw
  have R3 := R2.er1 hi w2 (nN K 32 i0) (nI f9) (by rw [nI_clamp (by omega)]; exact hf.2)
  rw [show nN (up2 (up2 K (10 + 15) i0 (bpO K i0 x)) (2000 + i0) (nN K 32 i0) (bpO K i0 x)) 35 i0 = nN K 35 i0 by rw [nN, up2_f (by omega), up2_f (by decide)]; rfl, show up2 (up2 K (10 + 15) i0 (bpO K i0 x)) (2000 + i0) (nN K 32 i0) (bpO K i0 x) (3000 + i0) = K (3000 + i0) by rw [up2_f (by omega), up2_f (by omega)], ← dec_up (K (3000 + i0)) (nI f9) (dec_n rfl hf.1 (by omega))] at R3
  have w3 : isWK (up2 (up2 (up2 K (10 + 15) i0 (bpO K i0 x)) (2000 + i0) (nN K 32 i0) (bpO K i0 x)) (3000 + i0) (nN K 32 i0) (nI f9)) i0 = true := by
    unfold isWK; rw [up2_f (by omega)]; exact w2
  have R5 := R3.putS hi (bpK K i0 x f9) (σ := upd (upd (upd (sgK K i0) 15 (bpO K i0 x)) 22 (nI (nN K 32 i0 + 1))) 6 (nI 4)) (ρ := rhK A K i0) (fun f j hne => by
      unfold bpK
      rw [up2_n (fun e => hne (by rw [e.1, e.2]; rfl)), up2_n (fun e => hne (by rw [e.1, e.2]; rfl))]) (by
      unfold bpK
      rw [up2_f (by decide), up2_f (by decide)]) (by
      have h18 := hR.2.2.2.2.2 18 i0 (by decide) hi
      unfold bpK
      rw [nN, up2_f (by decide), up2_f (by decide), up2_f (by omega), up2_f (by omega), up2_f (by decide)]; exact h18) (fun j _ _ _ _ _ _ h26 => by
      unfold bpK
      by_cases e6 : j = 6
      · subst e6; rw [up2_s]; simp [upd]
      · rw [up2_f (by omega)]
        by_cases e22 : j = 22
        · subst e22; rw [up2_s]; simp [upd]
        · rw [up2_f (by omega), up2_f (by omega), up2_f (by omega)]
          by_cases e15 : j = 15
          · subst e15; rw [up2_s]; simp [upd]
          · rw [up2_f (by omega)]; simp [upd, e6, e22, e15, sgK]) (by
      unfold bpK
      rw [up2_f (by decide), up2_f (by decide), up2_f (by omega), up2_f (by omega), up2_f (by decide)]; rfl) (by
      unfold bpK
      rw [up2_f (by decide), up2_f (by decide), up2_f (by omega), up2_f (by omega), up2_f (by decide)]; rfl) rfl rfl rfl rfl
  rw [w3] at R5
  refine b_X7_beginPause_8.go C ⟨_, hR.wk hi hw, _, hR.wk hi hw, _, rfl, _, rfl, _, hR.wk hi hw, _, up_eq, _, up_eq, _, up_eq, _, _, (up_ne (Ne.symm d14)).trans (hR.pe hi hw), nN K 32 i0, p1, m1, by omega, _, (up_ne d14).trans up_eq, _, (up_ne d14).trans up_eq, fun b9 h9 => by cases h9; exact ⟨_, _, R2.fl hf, by decide⟩, _, _, (up_ne d45).trans ((up_ne (Ne.symm d15)).trans (hR.er hi hw)), nN K 32 i0, p1, m2, by omega, trivial, ?_⟩
  refine b_X7_beginPause_48.go C ⟨_, (up_ne d15).trans ((up_ne d14).trans up_eq), nI (nN K 32 i0 + 1), (congrArg (· + nI 1) p1).trans (nI_1 _), _, (up_ne d15).trans ((up_ne d14).trans up_eq), _, up_eq, trivial, ?_⟩
  rw [bx_uu]
  exact V_vret C X d_X7_beginPause_61 (Nat.zero_le _) (Nat.zero_le _) ⟨rfl, R5⟩
/-- the first m earlier failures of work i -/
def erlA (K : MS) (i m : Nat) : Nat → Int32 := fun j => if j < m then K (3000 + i) j else 0
set_option maxHeartbeats 1000000 in
theorem k_earlierFailures (d : Nat) (G : GH) (A : AS) (n F : Nat) (K : MS) (L : KL) (i0 : Nat) (hR : KR Y G A n F K L) (hi : 1 ≤ i0 ∧ i0 ≤ n) (hw : isWK K i0 = true) (hp : pzOk K i0) (hle : nN K 32 i0 ≤ nN K 35 i0) (he : ∀ j, j < nN K 32 i0 → K (3000 + i0) j = nI (nN K (3000 + i0) j)) : Cd l yX7_earlierFailures cX7_earlierFailures 3 (some (.array (.object "PromiseKitchen$Failure"))) d 1 ((nN K 32 i0)) Y [.inr (.inr (some (A 1 i0)))] G (fun r G' => ∃ q, G q = none ∧ r = some (.inr (.inr (some q))) ∧ G' = va_up G q (some (oar 4 (nN K 32 i0) (fun j => dec A 6 (erlA K i0 (nN K 32 i0) j))))) := by
  refine Ct.of (ini := False) (by decide +kernel) False.elim rfl (Nat.le_of_ble_eq_true rfl) ?_
  intro p e s m args below meth c C X
  have hn := hR.2.2.1
  have hF := hR.2.2.2.1
  obtain ⟨p1, p2, p3, p4⟩ := hp
  refine b_X7_earlierFailures_0.go C ⟨_, hR.wk hi hw, nN K 32 i0, p1, by omega, by show _ ≤ 1; omega, by show _ ≤ nN K 32 i0; omega, fun q0 hq0 => ⟨trivial, ?_⟩⟩
  refine (show ∀ (q j : Nat) (G1 : GH), j + q = nN K 32 i0 → G1 = va_up G q0 (some (oar 4 (nN K 32 i0) (fun x => dec A 6 (erlA K i0 j x)))) → V p l e (RM d 1 (((nN K 32 i0)))) s m args below meth c Y (GA G s.heap.size) (QM below args s (RM d 1 (((nN K 32 i0)))) Y G (fun r G' => ∃ q, G q = none ∧ r = some (.inr (.inr (some q))) ∧ G' = va_up G q (some (oar 4 (nN K 32 i0) (fun j => dec A 6 (erlA K i0 (nN K 32 i0) j)))))) 10 G1 (0 + 1) (0 + nN K 32 i0) [some (.inr (.inr (some (A 1 i0)))), some (.inr (.inr (some q0))), some (.inl (nI j))] [] from ?_) (nN K 32 i0) 0 _ (by omega) (congrArg (fun f => va_up G q0 (some (oar 4 (nN K 32 i0) f))) (funext (fun _ => (dec_0 rfl).symm)))
  intro q
  induction q with
  | zero =>
    intro j G1 hj e1
    have ej : j = nN K 32 i0 := by omega
    subst e1
    have R2 := hR.fresh hq0 (oar 4 (nN K 32 i0) (fun x => dec A 6 (erlA K i0 j x)))
    refine b_X7_earlierFailures_10.go C ⟨_, R2.wk (by omega) hw, fun h10 => ⟨trivial, ?_⟩, fun h => absurd (show (K 32 i0) ≤ (nI j) by rw [p1]; exact nI_le (by omega) (by omega)) h⟩
    refine b_X7_earlierFailures_33.go C ⟨trivial, ?_⟩
    exact V_aret C X (Or.inr ⟨_, rfl⟩) d_X7_earlierFailures_34 (by show _ ≤ 1; omega) (by show _ ≤ ((nN K 32 i0)); omega) ⟨q0, hq0, rfl, by rw [ej]⟩
  | succ q ih =>
    intro j G1 hj e1
    subst e1
    have R2 := hR.fresh hq0 (oar 4 (nN K 32 i0) (fun x => dec A 6 (erlA K i0 j x)))
    have hqe : A 5 i0 ≠ q0 := ne_none (hR.er hi hw) hq0
    refine b_X7_earlierFailures_10.go C ⟨_, R2.wk (by omega) hw, fun h => absurd (show nN K 32 i0 ≤ j from (nI_leI (by omega) (by omega)).mp (by have h9 : (K 32 i0) ≤ (nI j) := h; rw [p1] at h9; exact h9)) (by omega), fun h10 => ⟨trivial, ?_⟩⟩
    refine b_X7_earlierFailures_18.go C ⟨_, R2.wk hi hw, _, _, (up_ne hqe).trans (hR.er hi hw), j, rfl, by omega, by omega, _, rfl, fun b9 h9 => ?_, _, _, up_eq, j, rfl, by omega, by omega, _, nI_1 _, trivial, ?_⟩
    · have h9 : dec A 6 (K (3000 + i0) j) = some b9 := h9
      have e := he j (by omega)
      have hle2 : nN K (3000 + i0) j ≤ F := hR.2.2.2.2.2 (3000 + i0) j (decide_eq_true (by omega)) (by rw [own_5 j (by omega)]; exact ⟨hi, hw⟩)
      have h0 : nN K (3000 + i0) j ≠ 0 := fun z => (dec_s h9).1 (by rw [e, z]; exact nI_0)
      rw [dec_n e (by omega) (by omega)] at h9
      cases h9
      exact ⟨_, _, R2.fl ⟨by omega, hle2⟩, by decide⟩
    · refine ih (j + 1) _ (by omega) ?_
      rw [bx_uu]
      refine congrArg (fun f => va_up G q0 (some (oar 4 (nN K 32 i0) f))) (funext (fun x => ?_))
      unfold erlA
      by_cases e : x = j
      · subst e; rw [up_eq, if_pos (by omega)]
      · rw [up_ne e]
        by_cases e2 : x < j
        · rw [if_pos e2, if_pos (by omega)]
        · rw [if_neg e2, if_neg (by omega)]
/-- the value of the working of i -/
def rsI (K : MS) (i : Nat) : Int32 := if K 11 i = nI 3 then K 17 (iK K i 0) else nI 0
def resV (K : MS) (i : Nat) : Int32 := if K 13 i = nI 1 then K 14 i + K 27 i + rsI K i else if K 13 i = nI 2 then (K 14 i ^^^ K 26 i) + rsI K i else if K 13 i = nI 3 then K 14 i * K 27 i + K 26 i + rsI K i else K 14 i + rsI K i
set_option maxHeartbeats 1000000 in
theorem k_result (d : Nat) (G : GH) (A : AS) (n F : Nat) (K : MS) (L : KL) (i0 : Nat) (hR : KR Y G A n F K L) (hi : 1 ≤ i0 ∧ i0 ≤ n) (hw : isWK K i0 = true) (hin : K 11 i0 = nI 3 → inK K n i0 ∧ 1 ≤ nN K 12 i0) (hk : K 13 i0 = nI (nN K 13 i0)) (hk2 : nN K 13 i0 ≤ 4) : Cd l yX7_result cX7_result 2 (some .int) (d + 1) 0 0 Y [.inr (.inr (some (A 1 i0)))] G (fun r G' => G' = G ∧ r = some (.inl (resV K i0))) := by
  refine Ct.of (ini := False) (by decide +kernel) False.elim rfl (Nat.le_of_ble_eq_true rfl) ?_
  intro p e s m args below meth c C X
  have hn := hR.2.2.1
  have ti : (nI (nN K 13 i0)).toInt = (nN K 13 i0 : Int) := nI_toInt (by omega)
  have tl : ∀ v, v = rsI K i0 → V p l e (RM (d + 1) 0 0) s m args below meth c Y (GA G s.heap.size) (QM below args s (RM (d + 1) 0 0) Y G (fun r G' => G' = G ∧ r = some (.inl (resV K i0)))) 19 G 0 0 [some (.inr (.inr (some (A 1 i0)))), none] [.inl v] := by
    intro v hv
    refine b_X7_result_19.go C ⟨_, hR.wk hi hw, fun h0 => ⟨trivial, ?_⟩, fun j tgt hj ht => ⟨trivial, ?_⟩⟩
    · replace h0 : (K 13 i0).toInt < 1 ∨ 3 < (K 13 i0).toInt := h0
      rw [hk, ti] at h0
      refine b_X7_result_93.go C ⟨_, hR.wk hi hw, _, rfl, trivial, ?_⟩
      refine V_iret C X d_X7_result_99 (Nat.zero_le _) (Nat.zero_le _) ⟨rfl, ?_⟩
      rw [resV, hk, if_neg (fun z => by have := (nI_eq (by omega) (by omega)).mp z; omega), if_neg (fun z => by have := (nI_eq (by omega) (by omega)).mp z; omega), if_neg (fun z => by have := (nI_eq (by omega) (by omega)).mp z; omega), hv]; rfl
    · replace hj : (K 13 i0).toInt = 1 + j := hj
      rw [hk, ti] at hj
      rcases j with _ | _ | _ | j
      · cases ht
        have ef : nN K 13 i0 = 1 := by omega
        refine b_X7_result_52.go C ⟨_, hR.wk hi hw, _, hR.wk hi hw, _, rfl, _, rfl, trivial, ?_⟩
        refine V_iret C X d_X7_result_63 (Nat.zero_le _) (Nat.zero_le _) ⟨rfl, ?_⟩
        rw [resV, hk, ef, if_pos rfl, hv]; rfl
      · cases ht
        have ef : nN K 13 i0 = 2 := by omega
        refine b_X7_result_64.go C ⟨_, hR.wk hi hw, _, hR.wk hi hw, _, rfl, _, rfl, trivial, ?_⟩
        refine V_iret C X d_X7_result_75 (Nat.zero_le _) (Nat.zero_le _) ⟨rfl, ?_⟩
        rw [resV, hk, ef, if_neg (by decide +kernel), if_pos rfl, hv]; rfl
      · cases ht
        have ef : nN K 13 i0 = 3 := by omega
        refine b_X7_result_76.go C ⟨_, hR.wk hi hw, _, hR.wk hi hw, _, rfl, _, hR.wk hi hw, _, rfl, _, rfl, trivial, ?_⟩
        refine V_iret C X d_X7_result_92 (Nat.zero_le _) (Nat.zero_le _) ⟨rfl, ?_⟩
        rw [resV, hk, ef, if_neg (by decide +kernel), if_neg (by decide +kernel), if_pos rfl, hv]; rfl
      · cases ht
  refine b_X7_result_0.go C ⟨_, hR.wk (by omega) hw, fun h0 => ⟨trivial, ?_⟩, fun h0 => ⟨trivial, ?_⟩⟩
  · have h0 : ¬ K 11 i0 = nI 3 := h0
    refine b_X7_result_18.go C ⟨trivial, ?_⟩
    exact tl _ (by rw [rsI, if_neg h0])
  have h0 : K 11 i0 = nI 3 := h0
  obtain ⟨hin, hk1⟩ := hin h0
  obtain ⟨-, f2, f3⟩ := hin.2.2 0 (by omega)
  refine b_X7_result_8.go C ⟨trivial, ?_⟩
  refine k_X7_result_9.go C X (k_firstInput d G A n F K L i0 hR hi hin hk1) (rest := []) rfl rfl rfl (fun _ => ⟨_, _, _, rfl, hR.wk (by omega) hw, by decide⟩) (lb rfl) (Rq.of (by omega) (by decide) (Nat.le_refl _) (Nat.le_refl _)) ?_
  rintro r G9 ⟨h9, rfl⟩
  replace h9 := h9.symm
  subst h9
  refine b_X7_result_12.go C ⟨_, _, hR.st (by omega), stC_ci _, trivial, ?_⟩
  exact tl _ (by rw [rsI, if_pos h0]; rfl)
end CLH
