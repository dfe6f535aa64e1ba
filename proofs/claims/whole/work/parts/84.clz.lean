/-! the class: isWork, isGroup, cook, cooks -/
section CLZ
variable {l : Launch} {Y : YT}
def iwB (mi lo kd : Int32) : Bool := decide ((lo ≤ mi ∧ mi ≤ nI 60) ∧ (nI 0 ≤ kd ∧ kd ≤ nI 4))
theorem k_isWork (d : Nat) (G : GH) (mi lo kd : Int32) : Cd l yX8_isWork cX8_isWork 3 (some .boolean) (d + 1) 0 0 Y [.inl mi, .inl lo, .inl kd] G (fun r G' => G' = G ∧ r = some (.inl (bI (iwB mi lo kd)))) := by
  refine Ct.of (ini := False) (by decide +kernel) False.elim rfl (Nat.le_of_ble_eq_true rfl) ?_
  intro p e s m args below meth c C X
  have no : iwB mi lo kd = false → V p l e (RM (d + 1) 0 0) s m args below meth c Y (GA G s.heap.size) (QM below args s (RM (d + 1) 0 0) Y G (fun r G' => G' = G ∧ r = some (.inl (bI (iwB mi lo kd))))) 23 G 0 0 [some (.inl mi), some (.inl lo), some (.inl kd)] [] := by
    intro h
    refine b_X8_isWork_23.go C ⟨trivial, ?_⟩
    exact V_zret C X d_X8_isWork_24 z0 (Nat.zero_le _) (Nat.zero_le _) ⟨rfl, by rw [h]; rfl⟩
  refine b_X8_isWork_0.go C ⟨trivial, ?_⟩
  refine k_X8_isWork_4.go C X (c_isWithin d G mi lo (nI 60)) (rest := []) rfl rfl rfl (fun h => absurd rfl h) (lb rfl) (Rq.of (by omega) (by decide) (Nat.le_refl _) (Nat.le_refl _)) ?_
  rintro r G9 ⟨h9, rfl⟩
  replace h9 := h9.symm
  subst h9
  refine b_X8_isWork_7.go C ⟨fun h7 => ⟨trivial, ?_⟩, fun h7 => ⟨trivial, ?_⟩⟩
  · exact no (decide_eq_false (fun z => wi_0 h7 z.1))
  have h7 := wi_1 h7
  refine b_X8_isWork_10.go C ⟨trivial, ?_⟩
  refine k_X8_isWork_13.go C X (c_isWithin d G kd (nI 0) (nI 4)) (rest := []) rfl rfl rfl (fun h => absurd rfl h) (lb rfl) (Rq.of (by omega) (by decide) (Nat.le_refl _) (Nat.le_refl _)) ?_
  rintro r G9 ⟨h9, rfl⟩
  replace h9 := h9.symm
  subst h9
  refine b_X8_isWork_16.go C ⟨fun h16 => ⟨trivial, ?_⟩, fun h16 => ⟨trivial, ?_⟩⟩
  · exact no (decide_eq_false (fun z => wi_0 h16 z.2))
  have h16 := wi_1 h16
  refine b_X8_isWork_19.go C ⟨trivial, ?_⟩
  exact V_zret C X d_X8_isWork_24 z1 (Nat.zero_le _) (Nat.zero_le _) ⟨rfl, by rw [iwB, decide_eq_true ⟨h7, h16⟩]; rfl⟩
def sB (K : MS) (v : Int32) : Prop := nI 1 ≤ v ∧ v ≤ K 0 0
def igB (K : MS) (fr ct : Int32) : Bool := decide ((nI 1 ≤ ct ∧ ct ≤ nI 24) ∧ (nI 1 ≤ fr ∧ fr ≤ K 0 0) ∧ (nI 1 ≤ fr + ct - nI 1 ∧ fr + ct - nI 1 ≤ K 0 0))
theorem k_isGroup (d : Nat) (G : GH) (A : AS) (n F : Nat) (K : MS) (L : KL) (fr ct : Int32) (hR : KR Y G A n F K L) (hm : mdK K n n) : Cd l yX8_isGroup cX8_isGroup 3 (some .boolean) (d + 2) 0 0 Y [.inr (.inr (some (A 0 0))), .inl fr, .inl ct] G (fun r G' => G' = G ∧ r = some (.inl (bI (igB K fr ct)))) := by
  refine Ct.of (ini := False) (by decide +kernel) False.elim rfl (Nat.le_of_ble_eq_true rfl) ?_
  intro p e s m args below meth c C X
  have no : igB K fr ct = false → V p l e (RM (d + 2) 0 0) s m args below meth c Y (GA G s.heap.size) (QM below args s (RM (d + 2) 0 0) Y G (fun r G' => G' = G ∧ r = some (.inl (bI (igB K fr ct))))) 34 G 0 0 [some (.inr (.inr (some (A 0 0)))), some (.inl fr), some (.inl ct)] [] := by
    intro h
    refine b_X8_isGroup_34.go C ⟨trivial, ?_⟩
    exact V_zret C X d_X8_isGroup_35 z0 (Nat.zero_le _) (Nat.zero_le _) ⟨rfl, by rw [h]; rfl⟩
  refine b_X8_isGroup_0.go C ⟨trivial, ?_⟩
  refine k_X8_isGroup_4.go C X (c_isWithin (d + 1) G ct (nI 1) (nI 24)) (rest := []) rfl rfl rfl (fun h => absurd rfl h) (lb rfl) (Rq.of (by omega) (by decide) (Nat.le_refl _) (Nat.le_refl _)) ?_
  rintro r G9 ⟨h9, rfl⟩
  replace h9 := h9.symm
  subst h9
  refine b_X8_isGroup_7.go C ⟨fun h7 => ⟨trivial, ?_⟩, fun h7 => ⟨trivial, ?_⟩⟩
  · exact no (decide_eq_false (fun z => wi_0 h7 z.1))
  have h7 := wi_1 h7
  refine b_X8_isGroup_10.go C ⟨trivial, ?_⟩
  refine k_X8_isGroup_12.go C X (k_find d G A n F K L fr n hR hm) (rest := []) rfl rfl rfl (fun _ => ⟨_, _, _, rfl, hR.mn, by decide⟩) (lb rfl) (Rq.of (by omega) (by decide) (Nat.le_refl _) (Nat.le_refl _)) ?_
  rintro r G9 ⟨h9, rfl⟩
  replace h9 := h9.symm
  subst h9
  by_cases hs : nI 1 ≤ fr ∧ fr ≤ K 0 0
  rotate_left
  · rw [if_neg hs]
    refine b_X8_isGroup_15.go C ⟨fun _ => ⟨trivial, ?_⟩, fun _ h => by cases h⟩
    exact no (decide_eq_false (fun z => hs z.2.1))
  rw [if_pos hs]
  refine b_X8_isGroup_15.go C ⟨fun h => (by cases h), fun _ _ => ⟨trivial, ?_⟩⟩
  refine b_X8_isGroup_18.go C ⟨_, rfl, _, rfl, trivial, ?_⟩
  refine k_X8_isGroup_24.go C X (k_find d G A n F K L (fr + ct - nI 1) n hR hm) (rest := []) rfl rfl rfl (fun _ => ⟨_, _, _, rfl, hR.mn, by decide⟩) (lb rfl) (Rq.of (by omega) (by decide) (Nat.le_refl _) (Nat.le_refl _)) ?_
  rintro r G9 ⟨h9, rfl⟩
  replace h9 := h9.symm
  subst h9
  by_cases hs2 : nI 1 ≤ fr + ct - nI 1 ∧ fr + ct - nI 1 ≤ K 0 0
  rotate_left
  · rw [if_neg hs2]
    refine b_X8_isGroup_27.go C ⟨fun _ => ⟨trivial, ?_⟩, fun _ h => by cases h⟩
    exact no (decide_eq_false (fun z => hs2 z.2.2))
  rw [if_pos hs2]
  refine b_X8_isGroup_27.go C ⟨fun h => (by cases h), fun _ _ => ⟨trivial, ?_⟩⟩
  refine b_X8_isGroup_30.go C ⟨trivial, ?_⟩
  exact V_zret C X d_X8_isGroup_35 z1 (Nat.zero_le _) (Nat.zero_le _) ⟨rfl, by rw [igB, decide_eq_true ⟨h7, hs, hs2⟩]; rfl⟩
def cookKK (K : MS) (v w : Int32) : Int32 := if (nI 1 ≤ v ∧ v ≤ K 1 0) ∧ (nI 0 ≤ w ∧ w ≤ nI 3) then (if w = 0 then K 61 v.toNatClampNeg else if w = nI 1 then K 62 v.toNatClampNeg else if w = nI 2 then nI (lsL K v.toNatClampNeg).length else if upmK K v.toNatClampNeg = 0 then nI 0 else K 10 (upmK K v.toNatClampNeg)) else -1
set_option maxHeartbeats 1000000 in
theorem k_cook (d : Nat) (G : GH) (A : AS) (n F : Nat) (K : MS) (L : KL) (v w : Int32) (kc : Nat) (hR : KR Y G A n F K L) (hk : K 1 0 = nI kc) (hk2 : kc ≤ 12) (hc : ∀ c, 1 ≤ c → c ≤ 12 → LOk K n c ∧ ∀ u ∈ lsL K c, isWK K u = true) : Cd l yX8_cook cX8_cook 5 (some .int) (d + 4) 0 0 Y [.inr (.inr (some (A 0 0))), .inl v, .inl w] G (fun r G' => G' = G ∧ r = some (.inl (cookKK K v w))) := by
  refine Ct.of (ini := False) (by decide +kernel) False.elim rfl (Nat.le_of_ble_eq_true rfl) ?_
  intro p e s m args below meth c C X
  refine b_X8_cook_0.go C ⟨_, hR.mn, trivial, ?_⟩
  refine k_X8_cook_6.go C X (c_isWithin (d + 3) G v (nI 1) (K 1 0)) (rest := []) rfl rfl rfl (fun h => absurd rfl h) (lb rfl) (Rq.of (by omega) (by decide) (Nat.le_refl _) (Nat.le_refl _)) ?_
  rintro r G9 ⟨h9, rfl⟩
  replace h9 := h9.symm
  subst h9
  refine b_X8_cook_9.go C ⟨fun h9 => ⟨trivial, ?_⟩, fun h9 => ⟨trivial, ?_⟩⟩
  rotate_left
  · refine b_X8_cook_12.go C ⟨trivial, ?_⟩
    exact V_iret C X d_X8_cook_13 (Nat.zero_le _) (Nat.zero_le _) ⟨rfl, by rw [cookKK, if_neg (fun z => wi_0 h9 z.1)]⟩
  have h9 := wi_1 h9
  obtain ⟨j, j1, j2, rfl⟩ := in_of (a := 1) (b := kc) (by omega) (hk ▸ h9) (by decide)
  have ej : (nI j).toNatClampNeg = j := nI_clamp (by omega)
  obtain ⟨j, rfl⟩ : ∃ q, j = q + 1 := ⟨j - 1, by omega⟩
  have hjc : 1 ≤ j + 1 ∧ j + 1 ≤ 12 := ⟨by omega, by omega⟩
  obtain ⟨cl, cw⟩ := hc (j + 1) hjc.1 hjc.2
  refine b_X8_cook_14.go C ⟨_, hR.mn, _, pk_sub (by omega), _, _, hR.cr, j, rfl, by omega, lb rfl, _, rfl, fun h14 => ⟨trivial, ?_⟩, fun x tgt hx ht => ⟨trivial, ?_⟩⟩
  · refine b_X8_cook_95.go C ⟨trivial, ?_⟩
    refine V_iret C X d_X8_cook_96 (Nat.zero_le _) (Nat.zero_le _) ⟨rfl, ?_⟩
    rw [cookKK, if_neg]
    rintro ⟨-, z1, z2⟩
    obtain ⟨y, y1, y2, rfl⟩ := in_of (a := 0) (b := 3) (by decide) ⟨z1, z2⟩ (by decide)
    rw [nI_toInt (by omega)] at h14
    omega
  · have hwx : w = nI x ∧ x ≤ 3 := by
      have h4 : x < 4 := by
        rcases x with _ | _ | _ | _ | x
        · omega
        · omega
        · omega
        · omega
        · cases ht
      refine ⟨?_, by omega⟩
      apply Int32.toInt_inj.mp
      rw [nI_toInt (by omega), hx]; omega
    obtain ⟨rfl, hx3⟩ := hwx
    have ew : cookKK K (nI (j + 1)) (nI x) = (if nI x = 0 then K 61 (j + 1) else if nI x = nI 1 then K 62 (j + 1) else if nI x = nI 2 then nI (lsL K (j + 1)).length else if upmK K (j + 1) = 0 then nI 0 else K 10 (upmK K (j + 1))) := by rw [cookKK, if_pos ⟨h9, nI_le (by omega) (by omega), nI_le (by omega) (by omega)⟩, ej]
    rw [ew]
    rcases x with _ | _ | _ | _ | x
    · cases ht
      refine b_X8_cook_56.go C ⟨_, hR.ck hjc, trivial, ?_⟩
      exact V_iret C X d_X8_cook_60 (Nat.zero_le _) (Nat.zero_le _) ⟨rfl, by rw [if_pos nI_0]⟩
    · cases ht
      refine b_X8_cook_61.go C ⟨_, hR.ck hjc, trivial, ?_⟩
      exact V_iret C X d_X8_cook_65 (Nat.zero_le _) (Nat.zero_le _) ⟨rfl, by rw [if_neg (by decide +kernel), if_pos rfl]⟩
    · cases ht
      refine b_X8_cook_66.go C ⟨_, hR.ck hjc, trivial, ?_⟩
      refine k_X8_cook_70.go C X (c_size (d + 3) G (A 9 (j + 1)) _ _ _ (hR.ls (by omega) cl)) (rest := []) rfl rfl rfl (fun _ => ⟨_, _, _, rfl, hR.ls (by omega) cl, by decide⟩) (lb rfl) (Rq.of (by omega) (by decide) (Nat.le_refl _) (Nat.le_refl _)) ?_
      rintro r G9 ⟨h8, rfl⟩
      replace h8 := h8.symm
      subst h8
      exact V_iret C X d_X8_cook_73 (Nat.zero_le _) (Nat.zero_le _) ⟨rfl, by rw [if_neg (by decide +kernel), if_neg (by decide +kernel), if_pos rfl]⟩
    · cases ht
      refine b_X8_cook_74.go C ⟨trivial, ?_⟩
      refine k_X8_cook_75.go C X (k_upmost d G A n F K L (j + 1) hR hjc cl cw) (rest := []) rfl rfl rfl (fun _ => ⟨_, _, _, rfl, hR.ck hjc, by decide⟩) (lb rfl) (Rq.of (by omega) (by decide) (Nat.le_refl _) (Nat.le_refl _)) ?_
      rintro r G9 ⟨h8, rfl⟩
      replace h8 := h8.symm
      subst h8
      by_cases h0 : upmK K (j + 1) = 0
      · rw [h0]
        refine b_X8_cook_78.go C ⟨fun _ h => (by cases h), fun _ => ⟨trivial, ?_⟩⟩
        refine b_X8_cook_85.go C ⟨trivial, ?_⟩
        exact V_iret C X d_X8_cook_94 (Nat.zero_le _) (Nat.zero_le _) ⟨rfl, by rw [if_neg (by decide +kernel), if_neg (by decide +kernel), if_neg (by decide +kernel), if_pos rfl]⟩
      · obtain ⟨y1, y2⟩ := upm_in cl h0
        rw [opS_s h0]
        refine b_X8_cook_78.go C ⟨fun _ _ => ⟨trivial, ?_⟩, fun h => by cases h⟩
        refine b_X8_cook_89.go C ⟨_, hR.wk y2 (cw _ y1), trivial, ?_⟩
        exact V_iret C X d_X8_cook_94 (Nat.zero_le _) (Nat.zero_le _) ⟨rfl, by rw [if_neg (by decide +kernel), if_neg (by decide +kernel), if_neg (by decide +kernel), if_neg h0]; rfl⟩
    · omega
/-- has one of the first k cooks a pile? -/
def cbK (K : MS) (k : Nat) : Bool := (List.range k).any (fun c => decide ((lsL K (c + 1)).length ≠ 0))
def czK : Nat → Nat → MS → MS
  | 0, _, K => K
  | q + 1, c, K => czK q (c + 1) (up2 (up2 K 61 c (nI 0)) 62 c (nI 0))
def cksK (K : MS) (k : Nat) (v : Int32) : MS := if nI 1 ≤ v ∧ v ≤ nI 12 then (if cbK K k = true then K else up2 (czK v.toNatClampNeg 1 K) 1 0 v) else K
def cksC (K : MS) (k : Nat) (v : Int32) : Int32 := if nI 1 ≤ v ∧ v ≤ nI 12 then (if cbK K k = true then -3 else v) else -1
set_option maxHeartbeats 1000000 in
theorem k_cooks (d : Nat) (G : GH) (A : AS) (n F : Nat) (K : MS) (L : KL) (v : Int32) (kc : Nat) (hR : KR Y G A n F K L) (hk : K 1 0 = nI kc) (hk2 : kc ≤ 12) (hc : ∀ c, 1 ≤ c → c ≤ 12 → LOk K n c) : Cd l yX8_cooks cX8_cooks 3 (some .int) (d + 1) 0 0 Y [.inr (.inr (some (A 0 0))), .inl v] G (fun r G' => KR Y G' A n F (cksK K kc v) L ∧ r = some (.inl (cksC K kc v))) := by
  refine Ct.of (ini := False) (by decide +kernel) False.elim rfl (Nat.le_of_ble_eq_true rfl) ?_
  intro p e s m args below meth c C X
  refine b_X8_cooks_0.go C ⟨trivial, ?_⟩
  refine k_X8_cooks_4.go C X (c_isWithin d G v (nI 1) (nI 12)) (rest := []) rfl rfl rfl (fun h => absurd rfl h) (lb rfl) (Rq.of (by omega) (by decide) (Nat.le_refl _) (Nat.le_refl _)) ?_
  rintro r G9 ⟨h9, rfl⟩
  replace h9 := h9.symm
  subst h9
  refine b_X8_cooks_7.go C ⟨fun h7 => ⟨trivial, ?_⟩, fun h7 => ⟨trivial, ?_⟩⟩
  rotate_left
  · have h7 := wi_0 h7
    refine b_X8_cooks_10.go C ⟨trivial, ?_⟩
    exact V_iret C X d_X8_cooks_11 (Nat.zero_le _) (Nat.zero_le _) ⟨by rw [cksK, if_neg h7]; exact hR, by rw [cksC, if_neg h7]⟩
  have h7 := wi_1 h7
  have h70 := h7
  obtain ⟨x, x1, x2, rfl⟩ := in_of (a := 1) (b := 12) (by decide) h7 (by decide)
  have ex : (nI x).toNatClampNeg = x := nI_clamp (by omega)
  refine b_X8_cooks_12.go C ⟨trivial, ?_⟩
  refine (show ∀ (q j : Nat), j + q = kc → (∀ c, c < j → (lsL K (c + 1)).length = 0) → V p l e (RM (d + 1) 0 0) s m args below meth c Y (GA G s.heap.size) (QM below args s (RM (d + 1) 0 0) Y G (fun r G' => KR Y G' A n F (cksK K kc (nI x)) L ∧ r = some (.inl (cksC K kc (nI x))))) 14 G 0 0 [some (.inr (.inr (some (A 0 0)))), some (.inl (nI x)), some (.inl (nI j))] [] from ?_) kc 0 (by omega) (fun c h => by omega)
  intro q
  induction q with
  | zero =>
    intro j hj hall
    have hb : cbK K kc = false := by
      unfold cbK
      rw [List.any_eq_false]
      intro c hc9
      rw [List.mem_range] at hc9
      have := hall c (by omega)
      simp [this]
    have eK : cksK K kc (nI x) = up2 (czK x 1 K) 1 0 (nI x) := by rw [cksK, if_pos h70, if_neg (by rw [hb]; decide), ex]
    have eC : cksC K kc (nI x) = nI x := by rw [cksC, if_pos h70, if_neg (by rw [hb]; decide)]
    rw [eK, eC]
    refine b_X8_cooks_14.go C ⟨_, hR.mn, fun _ => ⟨trivial, ?_⟩, fun h => absurd (show K 1 0 ≤ nI j by rw [hk]; exact nI_le (by omega) (by omega)) h⟩
    refine b_X8_cooks_46.go C ⟨trivial, ?_⟩
    refine (show ∀ (q2 i : Nat) (G1 : GH) (K1 : MS), i + q2 = x → KR Y G1 A n F K1 L → czK x 1 K = czK q2 (i + 1) K1 → V p l e (RM (d + 1) 0 0) s m args below meth c Y (GA G s.heap.size) (QM below args s (RM (d + 1) 0 0) Y G (fun r G' => KR Y G' A n F (up2 (czK x 1 K) 1 0 (nI x)) L ∧ r = some (.inl (nI x)))) 48 G1 0 0 [some (.inr (.inr (some (A 0 0)))), some (.inl (nI x)), some (.inl (nI i))] [] from ?_) x 0 G K (by omega) hR rfl
    intro q2
    induction q2 with
    | zero =>
      intro i G1 K1 hi R1 hs
      rw [czK] at hs
      refine b_X8_cooks_48.go C ⟨fun _ => ⟨trivial, ?_⟩, fun h => absurd (nI_le (by omega) (by omega)) h⟩
      refine b_X8_cooks_79.go C ⟨_, R1.mn, trivial, ?_⟩
      exact V_iret C X d_X8_cooks_85 (Nat.zero_le _) (Nat.zero_le _) ⟨by rw [hs]; exact R1.m1 (nI x), rfl⟩
    | succ q2 ih2 =>
      intro i G1 K1 hi R1 hs
      have hs : czK x 1 K = czK q2 (i + 1 + 1) (up2 (up2 K1 61 (i + 1) (nI 0)) 62 (i + 1) (nI 0)) := hs.trans (by rw [czK])
      have R2 := R1.c61 (i := i + 1) ⟨by omega, by omega⟩ (nI 0)
      have R3 := R2.c62 (i := i + 1) ⟨by omega, by omega⟩ (nI 0)
      refine b_X8_cooks_48.go C ⟨fun h => absurd (show x ≤ i from (nI_leI (by omega) (by omega)).mp h) (by omega), fun _ => ⟨trivial, ?_⟩⟩
      refine b_X8_cooks_53.go C ⟨_, R1.mn, _, _, R1.cr, i, rfl, by omega, lb rfl, _, rfl, _, R1.ck ⟨by omega, by omega⟩, _, R2.mn, _, _, R2.cr, i, rfl, by omega, lb rfl, _, rfl, _, R2.ck ⟨by omega, by omega⟩, _, nI_1 _, trivial, ?_⟩
      exact ih2 (i + 1) _ _ (by omega) R3 hs
  | succ q ih =>
    intro j hj hall
    have cl := hc (j + 1) (by omega) (by omega)
    have hcp := cl.2.2.1
    have hlc := cl.2.1
    refine b_X8_cooks_14.go C ⟨_, hR.mn, fun h => absurd (show nI kc ≤ nI j by rw [← hk]; exact h) (fun z => by have := (nI_leI (by omega) (by omega)).mp z; omega), fun _ => ⟨trivial, ?_⟩⟩
    refine b_X8_cooks_22.go C ⟨_, hR.mn, _, _, hR.cr, j, rfl, by omega, lb rfl, _, rfl, _, hR.ck ⟨by omega, by omega⟩, trivial, ?_⟩
    refine k_X8_cooks_31.go C X (c_isEmpty d G (A 9 (j + 1)) _ _ _ (hR.ls (by omega) cl) (by omega)) (rest := []) rfl rfl rfl (fun _ => ⟨_, _, _, rfl, hR.ls (by omega) cl, by decide⟩) (lb rfl) (Rq.of (by omega) (by decide) (Nat.le_refl _) (Nat.le_refl _)) ?_
    rintro r G9 ⟨h9, rfl⟩
    replace h9 := h9.symm
    subst h9
    refine b_X8_cooks_34.go C ⟨fun h34 => ⟨trivial, ?_⟩, fun h34 => ⟨trivial, ?_⟩⟩
    · have h34 : (lsL K (j + 1)).length = 0 := by simpa using bI_1 h34
      refine b_X8_cooks_40.go C ⟨_, nI_1 _, trivial, ?_⟩
      refine ih (j + 1) (by omega) (fun c hc9 => ?_)
      by_cases e : c = j
      · subst e; exact h34
      · exact hall c (by omega)
    · have h34 : (lsL K (j + 1)).length ≠ 0 := by simpa using bI_0 h34
      have hb : cbK K kc = true := by
        unfold cbK
        rw [List.any_eq_true]
        exact ⟨j, List.mem_range.mpr (by omega), decide_eq_true h34⟩
      refine b_X8_cooks_37.go C ⟨trivial, ?_⟩
      exact V_iret C X d_X8_cooks_39 (Nat.zero_le _) (Nat.zero_le _) ⟨by rw [cksK, if_pos h70, if_pos hb]; exact hR, by rw [cksC, if_pos h70, if_pos hb]⟩
end CLZ
