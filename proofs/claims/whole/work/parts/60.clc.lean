/-! the class: the rules of then, both, first, all, onFailure, always -/
section CLC
variable {l : Launch} {Y : YT}
/-- what a rule comes to: 0 nothing, 1 it ends as u, 2 with the value v, 3 called off, 4 with a new failure (kind, cause, how many suppressed, which) -/
abbrev Rs : Type := Nat × Nat × Int32 × Int32 × Int32 × Nat × (Nat → Int32)
def rsN : Rs := (0, 0, 0, 0, 0, 0, fun _ => 0)
def rsA (u : Nat) : Rs := (1, u, 0, 0, 0, 0, fun _ => 0)
def rsV (v : Int32) : Rs := (2, 0, v, 0, 0, 0, fun _ => 0)
def rsO : Rs := (3, 0, 0, 0, 0, 0, fun _ => 0)
def rsF (kd ca : Int32) (ns : Nat) (sup : Nat → Int32) : Rs := (4, 0, 0, kd, ca, ns, sup)
def resK (K : MS) (i F : Nat) (r : Rs) : MS := match r.1 with
  | 0 => K
  | 1 => asK K i r.2.1
  | 2 => gainK K i r.2.2.1
  | 3 => offK K i
  | _ => failK (newFK K (F + 1) r.2.2.2.1 (K 10 i) r.2.2.2.2.1 r.2.2.2.2.2.1 r.2.2.2.2.2.2) i (nI (F + 1))
def resF (F : Nat) (r : Rs) : Nat := match r.1 with
  | 0 => F
  | 1 => F
  | 2 => F
  | 3 => F
  | _ => F + 1
/-- what a rule's making costs at most -/
def rsC (r : Rs) : Nat := if r.1 = 0 then 0 else 64
def AX (A A' : AS) (F : Nat) : Prop := ∀ k i, ¬ ((k = 6 ∨ k = 7) ∧ i = F + 1) → A' k i = A k i
def SP (Y : YT) (G' : GH) (A : AS) (n F : Nat) (K : MS) (L : KL) (i : Nat) (r : Rs) : Prop := ∃ A', KR Y G' A' n (resF F r) (resK K i F r) L ∧ AX A A' F
def chgV (kd : Nat) (v a : Int32) : Int32 := pick4 kd (v + a) (v - a) (v * a) (v ^^^ a) (if a = 0 then 0 else fdiv v a)
theorem k_changed (d : Nat) (G : GH) (A : AS) (n F : Nat) (K : MS) (L : KL) (v a : Int32) (kd : Nat) (hk : kd ≤ 4) : Cd l yX5_changed cX5_changed 3 (some .int) (d + 1) 0 0 Y [.inl v, .inl (nI kd), .inl a] G (fun r G' => G' = G ∧ r = some (.inl (chgV kd v a))) := by
  refine Ct.of (ini := False) (by decide +kernel) False.elim rfl (Nat.le_of_ble_eq_true rfl) ?_
  intro p e s m args below meth c C X
  refine b_X5_changed_0.go C ⟨fun h0 => ⟨trivial, ?_⟩, fun j tgt h2 h3 => ?_⟩
  · obtain rfl : kd = 4 := by rw [nI_toInt (by omega)] at h0; omega
    refine b_X5_changed_48.go C ⟨fun h48 => ⟨trivial, ?_⟩, fun h48 => ⟨trivial, ?_⟩⟩
    · refine b_X5_changed_56.go C ⟨trivial, ?_⟩
      refine k_X5_changed_58.go C X (c_floorDiv d G v a h48) (rest := []) rfl rfl rfl (fun h => absurd rfl h) (lb rfl) (Rq.of (by omega) (by decide) (Nat.le_refl _) (Nat.le_refl _)) ?_
      rintro r G9 ⟨h9, rfl⟩
      replace h9 := h9.symm
      subst h9
      exact V_iret C X d_X5_changed_61 (Nat.zero_le _) (Nat.zero_le _) ⟨rfl, by show _ = (some (.inl (if a = 0 then 0 else fdiv v a)) : Option AV); rw [if_neg h48]⟩
    · refine b_X5_changed_52.go C ⟨trivial, ?_⟩
      exact V_iret C X d_X5_changed_61 (Nat.zero_le _) (Nat.zero_le _) ⟨rfl, by show _ = (some (.inl (if a = 0 then 0 else fdiv v a)) : Option AV); rw [if_pos h48, nI_0]⟩
  · obtain rfl := tab_at (by omega) h2
    rcases (show j = 0 ∨ j = 1 ∨ j = 2 ∨ j = 3 ∨ j = 4 by omega) with rfl | rfl | rfl | rfl | rfl
    · cases h3
      refine ⟨trivial, ?_⟩
      refine b_X5_changed_32.go C ⟨_, rfl, trivial, ?_⟩
      exact V_iret C X d_X5_changed_35 (Nat.zero_le _) (Nat.zero_le _) ⟨rfl, rfl⟩
    · cases h3
      refine ⟨trivial, ?_⟩
      refine b_X5_changed_36.go C ⟨_, rfl, trivial, ?_⟩
      exact V_iret C X d_X5_changed_39 (Nat.zero_le _) (Nat.zero_le _) ⟨rfl, rfl⟩
    · cases h3
      refine ⟨trivial, ?_⟩
      refine b_X5_changed_40.go C ⟨_, rfl, trivial, ?_⟩
      exact V_iret C X d_X5_changed_43 (Nat.zero_le _) (Nat.zero_le _) ⟨rfl, rfl⟩
    · cases h3
      refine ⟨trivial, ?_⟩
      refine b_X5_changed_44.go C ⟨_, rfl, trivial, ?_⟩
      exact V_iret C X d_X5_changed_47 (Nat.zero_le _) (Nat.zero_le _) ⟨rfl, rfl⟩
    · cases h3
def joiV (kd : Nat) (v w : Int32) : Int32 := pick4 kd (v + w) (v - w) (if v < w then w else v) (if w < v then w else v) (v * w)
theorem k_joined (d : Nat) (G : GH) (A : AS) (n F : Nat) (K : MS) (L : KL) (v a : Int32) (kd : Nat) (hk : kd ≤ 4) : Cd l yX5_joined cX5_joined 3 (some .int) (d + 1) 0 0 Y [.inl v, .inl a, .inl (nI kd)] G (fun r G' => G' = G ∧ r = some (.inl (joiV kd v a))) := by
  refine Ct.of (ini := False) (by decide +kernel) False.elim rfl (Nat.le_of_ble_eq_true rfl) ?_
  intro p e s m args below meth c C X
  refine b_X5_joined_0.go C ⟨fun h0 => ⟨trivial, ?_⟩, fun j tgt h2 h3 => ?_⟩
  · obtain rfl : kd = 4 := by rw [nI_toInt (by omega)] at h0; omega
    refine b_X5_joined_52.go C ⟨_, rfl, trivial, ?_⟩
    exact V_iret C X d_X5_joined_55 (Nat.zero_le _) (Nat.zero_le _) ⟨rfl, rfl⟩
  · obtain rfl := tab_at (by omega) h2
    rcases (show j = 0 ∨ j = 1 ∨ j = 2 ∨ j = 3 ∨ j = 4 by omega) with rfl | rfl | rfl | rfl | rfl
    · cases h3
      refine ⟨trivial, ?_⟩
      refine b_X5_joined_32.go C ⟨_, rfl, trivial, ?_⟩
      exact V_iret C X d_X5_joined_35 (Nat.zero_le _) (Nat.zero_le _) ⟨rfl, rfl⟩
    · cases h3
      refine ⟨trivial, ?_⟩
      refine b_X5_joined_36.go C ⟨_, rfl, trivial, ?_⟩
      exact V_iret C X d_X5_joined_39 (Nat.zero_le _) (Nat.zero_le _) ⟨rfl, rfl⟩
    · cases h3
      refine ⟨trivial, ?_⟩
      refine b_X5_joined_40.go C ⟨trivial, ?_⟩
      refine k_X5_joined_42.go C X (c_max d G v a) (rest := []) rfl rfl rfl (fun h => absurd rfl h) (lb rfl) (Rq.of (by omega) (by decide) (Nat.le_refl _) (Nat.le_refl _)) ?_
      rintro r G9 ⟨h9, rfl⟩
      replace h9 := h9.symm
      subst h9
      exact V_iret C X d_X5_joined_45 (Nat.zero_le _) (Nat.zero_le _) ⟨rfl, rfl⟩
    · cases h3
      refine ⟨trivial, ?_⟩
      refine b_X5_joined_46.go C ⟨trivial, ?_⟩
      refine k_X5_joined_48.go C X (c_min d G v a) (rest := []) rfl rfl rfl (fun h => absurd rfl h) (lb rfl) (Rq.of (by omega) (by decide) (Nat.le_refl _) (Nat.le_refl _)) ?_
      rintro r G9 ⟨h9, rfl⟩
      replace h9 := h9.symm
      subst h9
      exact V_iret C X d_X5_joined_51 (Nat.zero_le _) (Nat.zero_le _) ⟨rfl, rfl⟩
    · cases h3
theorem k_firstInput (d : Nat) (G : GH) (A : AS) (n F : Nat) (K : MS) (L : KL) (i0 : Nat) (hR : KR Y G A n F K L) (hi : 1 ≤ i0 ∧ i0 ≤ n) (hin : inK K n i0) (hk : 1 ≤ nN K 12 i0) : Cd l yX6_firstInput cX6_firstInput 1 (some (.object "PromiseKitchen$Stage")) d 0 0 Y [.inr (.inr (some (A 1 i0)))] G (fun r G' => G' = G ∧ r = some (.inr (.inr (some (A 1 (iK K i0 0)))))) := by
  refine Ct.of (ini := False) (by decide +kernel) False.elim rfl (Nat.le_of_ble_eq_true rfl) ?_
  intro p e s m args below meth c C X
  obtain ⟨hi1, hi2, hi3⟩ := hin
  have hn := hR.2.2.1
  obtain ⟨e1, e2, e3⟩ := hi3 0 (by omega)
  refine b_X6_firstInput_0.go C ⟨_, _, hR.st (by omega), stC_ci _, nN K 12 i0, Or.inl ⟨5, _, by decide, hR.inp (by omega)⟩, fun h0 => ⟨trivial, ?_⟩, fun h => absurd (show nN K 12 i0 = 0 from (nI_eq (by omega) (by omega)).mp (by have h9 : (nI (nN K 12 i0)) = 0 := h; rw [nI_0.symm] at h9; exact h9)) (by omega)⟩
  refine b_X6_firstInput_12.go C ⟨_, _, hR.st (by omega), stC_ci _, _, _, hR.inp (by omega), 0, rfl, by show 0 < nN K 12 i0; omega, by omega, _, dec_n (e1) (by omega) (by omega), trivial, ?_⟩
  exact V_aret C X (Or.inl ⟨_, rfl⟩) d_X6_firstInput_18 (Nat.zero_le _) (Nat.zero_le _) ⟨rfl, rfl⟩
theorem k_lastInput (d : Nat) (G : GH) (A : AS) (n F : Nat) (K : MS) (L : KL) (i0 : Nat) (hR : KR Y G A n F K L) (hi : 1 ≤ i0 ∧ i0 ≤ n) (hin : inK K n i0) (hk : 1 ≤ nN K 12 i0) : Cd l yX6_lastInput cX6_lastInput 1 (some (.object "PromiseKitchen$Stage")) d 0 0 Y [.inr (.inr (some (A 1 i0)))] G (fun r G' => G' = G ∧ r = some (.inr (.inr (some (A 1 (iK K i0 (nN K 12 i0 - 1))))))) := by
  refine Ct.of (ini := False) (by decide +kernel) False.elim rfl (Nat.le_of_ble_eq_true rfl) ?_
  intro p e s m args below meth c C X
  obtain ⟨hi1, hi2, hi3⟩ := hin
  have hn := hR.2.2.1
  obtain ⟨e1, e2, e3⟩ := hi3 (nN K 12 i0 - 1) (by omega)
  refine b_X6_lastInput_0.go C ⟨_, _, hR.st (by omega), stC_ci _, nN K 12 i0, Or.inl ⟨5, _, by decide, hR.inp (by omega)⟩, fun h0 => ⟨trivial, ?_⟩, fun h => absurd (show nN K 12 i0 = 0 from (nI_eq (by omega) (by omega)).mp (by have h9 : (nI (nN K 12 i0)) = 0 := h; rw [nI_0.symm] at h9; exact h9)) (by omega)⟩
  refine b_X6_lastInput_12.go C ⟨_, _, hR.st (by omega), stC_ci _, _, _, hR.st (by omega), stC_ci _, nN K 12 i0, Or.inl ⟨5, _, by decide, hR.inp (by omega)⟩, _, pk_sub (by omega), _, _, hR.inp (by omega), (nN K 12 i0) - 1, rfl, by show (nN K 12 i0) - 1 < nN K 12 i0; omega, by omega, _, dec_n (e1) (by omega) (by omega), trivial, ?_⟩
  exact V_aret C X (Or.inl ⟨_, rfl⟩) d_X6_lastInput_24 (Nat.zero_le _) (Nat.zero_le _) ⟨rfl, rfl⟩
/-- stage i0 has inputs, each of them before it -/
def upK (K : MS) (n i : Nat) : Prop := inK K n i ∧ 1 ≤ nN K 12 i ∧ ∀ j, j < nN K 12 i → iK K i j < i
theorem erl_in {K : MS} {i : Nat} {v : Int32} : ∀ (q j e : Nat), j + q ≤ nN K 12 i → (e = 0 ∨ ∃ t, t < nN K 12 i ∧ e = iK K i t) → (erlF K i v q j e = 0 ∨ ∃ t, t < nN K 12 i ∧ erlF K i v q j e = iK K i t)
  | 0, _, _, _, h => h
  | q + 1, j, e, hj, h => by
    rw [erlF]
    refine erl_in q (j + 1) _ (by omega) ?_
    split
    · exact Or.inr ⟨j, by omega, rfl⟩
    · exact h
theorem erl_lt {K : MS} {n i : Nat} {v : Int32} (h : upK K n i) (he : erlK K i v ≠ 0) : 1 ≤ erlK K i v ∧ erlK K i v ≤ n ∧ erlK K i v < i := by
  rcases erl_in (K := K) (i := i) (v := v) (nN K 12 i) 0 0 (by omega) (Or.inl rfl) with q | ⟨j, hj, q⟩
  · exact absurd q he
  · have := h.2.2 j hj
    have h2 := (h.1.2.2 j hj).2
    rw [show erlK K i v = iK K i j from q]
    omega
/-- stage i0 ends as stage u -/
theorem SP.as {G : GH} {A : AS} {n F : Nat} {K : MS} {L : KL} (hR : KR Y G A n F K L) {i u : Nat} (hi : 1 ≤ i ∧ i ≤ n) (hu : 1 ≤ u ∧ u ≤ n) : SP Y (va_up G (A 1 i) (some (stC (isWK K i) (upd (upd (sgK K i) 6 (sgK K u 6)) 7 (sgK K u 7)) (va_up (rhK A K i) 8 (rhK A K u 8))))) A n F K L i (rsA u) := ⟨A, hR.endAs hi hu, fun _ _ _ => rfl⟩
theorem SP.gn {G : GH} {A : AS} {n F : Nat} {K : MS} {L : KL} (hR : KR Y G A n F K L) {i : Nat} (hi : 1 ≤ i ∧ i ≤ n) (x : Int32) : SP Y (va_up G (A 1 i) (some (stC (isWK K i) (upd (upd (sgK K i) 6 (nI 5)) 7 x) (rhK A K i)))) A n F K L i (rsV x) := ⟨A, hR.gain hi x, fun _ _ _ => rfl⟩
theorem SP.no {G : GH} {A : AS} {n F : Nat} {K : MS} {L : KL} (hR : KR Y G A n F K L) (i : Nat) : SP Y G A n F K L i rsN := ⟨A, hR, fun _ _ _ => rfl⟩
def frsR (K : MS) (i : Nat) : Rs := if erlK K i (nI 5) = 0 then rsN else rsA (erlK K i (nI 5))
theorem k_settleFirst (d : Nat) (G : GH) (A : AS) (n F : Nat) (K : MS) (L : KL) (i0 : Nat) (hR : KR Y G A n F K L) (hi : 1 ≤ i0 ∧ i0 ≤ n) (hup : upK K n i0) : Cd l yX5_settleFirst cX5_settleFirst 2 none (d + 1) 0 0 Y [.inr (.inr (some (A 1 i0)))] G (fun r G' => r = none ∧ SP Y G' A n F K L i0 (frsR K i0)) := by
  refine Ct.of (ini := False) (by decide +kernel) False.elim rfl (Nat.le_of_ble_eq_true rfl) ?_
  intro p e s m args below meth c C X
  refine b_X5_settleFirst_0.go C ⟨trivial, ?_⟩
  refine k_X5_settleFirst_2.go C X (k_earliest d G A n F K L i0 (nI 5) hR hi hup.1) (rest := []) rfl rfl rfl (fun h => absurd rfl h) (lb rfl) (Rq.of (by omega) (by decide) (Nat.le_refl _) (Nat.le_refl _)) ?_
  rintro r G9 ⟨h9, rfl, hle⟩
  replace h9 := h9.symm
  subst h9
  refine b_X5_settleFirst_5.go C ⟨(fun h5 => ⟨trivial, ?_⟩), (fun a5 h5 => ⟨trivial, ?_⟩)⟩
  · exact V_vret C X d_X5_settleFirst_15 (Nat.zero_le _) (Nat.zero_le _) ⟨rfl, by rw [frsR, if_pos (opS_0 h5)]; exact SP.no hR i0⟩
  have h5 := opS_1 h5
  obtain ⟨u1, u2, u3⟩ := erl_lt hup h5
  rw [opS_s h5]
  refine b_X5_settleFirst_10.go C ⟨trivial, ?_⟩
  refine k_X5_settleFirst_12.go C X (c_endAs d G (A 1 i0) (A 1 (erlK K i0 (nI 5))) _ _ _ _ _ _ (hR.ne1 hi ⟨u1, u2⟩ (by omega)) (hR.st hi) (hR.st ⟨u1, u2⟩)) (rest := []) rfl rfl rfl (fun _ => ⟨_, _, _, rfl, hR.st (by omega), stC_in _⟩) (lb rfl) (Rq.of (by omega) (by decide) (Nat.le_refl _) (Nat.le_refl _)) ?_
  rintro r G9 ⟨rfl, rfl⟩
  exact V_vret C X d_X5_settleFirst_15 (Nat.zero_le _) (Nat.zero_le _) ⟨rfl, by rw [frsR, if_neg h5]; exact SP.as hR hi ⟨u1, u2⟩⟩
def bthR (K : MS) (i : Nat) : Rs := if erlK K i (nI 6) = 0 then (if cntK K i (nI 5) = nN K 12 i then rsV (joiV (nN K 13 i) (K 17 (iK K i 0)) (K 17 (iK K i (nN K 12 i - 1)))) else rsN) else rsA (erlK K i (nI 6))
theorem cnt_le (K : MS) (i : Nat) (v : Int32) : ∀ (q j a : Nat), cntF K i v q j a ≤ a + q
  | 0, _, _ => Nat.le_refl _
  | q + 1, j, a => by
    rw [cntF]
    have := cnt_le K i v q (j + 1) (if K 16 (iK K i j) = v then a + 1 else a)
    split at this <;> rename_i h <;> simp only [h, if_true, if_false] at this ⊢ <;> omega
theorem cnt_24 {K : MS} {n i : Nat} {v : Int32} (h : upK K n i) : cntK K i v ≤ 24 := by
  have := cnt_le K i v (nN K 12 i) 0 0
  have := h.1.2.1
  unfold cntK; omega
set_option maxHeartbeats 1000000 in
theorem k_settleBoth (d : Nat) (G : GH) (A : AS) (n F : Nat) (K : MS) (L : KL) (i0 kd : Nat) (hR : KR Y G A n F K L) (hi : 1 ≤ i0 ∧ i0 ≤ n) (hup : upK K n i0) (hk : K 13 i0 = nI kd) (hk2 : kd ≤ 4) : Cd l yX5_settleBoth cX5_settleBoth 2 none (d + 2) 0 0 Y [.inr (.inr (some (A 1 i0)))] G (fun r G' => r = none ∧ SP Y G' A n F K L i0 (bthR K i0)) := by
  refine Ct.of (ini := False) (by decide +kernel) False.elim rfl (Nat.le_of_ble_eq_true rfl) ?_
  intro p e s m args below meth c C X
  have hn := hR.2.2.1
  have ek : nN K 13 i0 = kd := nN_of hk (by omega)
  have h24 := cnt_24 (v := nI 5) hup
  have hN := hup.1.2.1
  refine b_X5_settleBoth_0.go C ⟨trivial, ?_⟩
  refine k_X5_settleBoth_3.go C X (k_earliest d G A n F K L i0 (nI 6) hR hi hup.1) (rest := []) rfl rfl rfl (fun h => absurd rfl h) (lb rfl) (Rq.of (by omega) (by decide) (Nat.le_refl _) (Nat.le_refl _)) ?_
  rintro r G9 ⟨h9, rfl, hle⟩
  replace h9 := h9.symm
  subst h9
  refine b_X5_settleBoth_6.go C ⟨(fun h6 => ⟨trivial, ?_⟩), (fun a6 h6 => ⟨trivial, ?_⟩)⟩
  rotate_left
  · have h5 := opS_1 h6
    obtain ⟨u1, u2, u3⟩ := erl_lt hup h5
    rw [opS_s h5]
    refine b_X5_settleBoth_11.go C ⟨trivial, ?_⟩
    refine k_X5_settleBoth_13.go C X (c_endAs d G (A 1 i0) (A 1 (erlK K i0 (nI 6))) _ _ _ _ _ _ (hR.ne1 hi ⟨u1, u2⟩ (by omega)) (hR.st hi) (hR.st ⟨u1, u2⟩)) (rest := []) rfl rfl rfl (fun _ => ⟨_, _, _, rfl, hR.st (by omega), stC_in _⟩) (lb rfl) (Rq.of (by omega) (by decide) (Nat.le_refl _) (Nat.le_refl _)) ?_
    rintro r G9 ⟨rfl, rfl⟩
    refine b_X5_settleBoth_16.go C ⟨trivial, ?_⟩
    exact V_vret C X d_X5_settleBoth_57 (Nat.zero_le _) (Nat.zero_le _) ⟨rfl, by rw [bthR, if_neg h5]; exact SP.as hR hi ⟨u1, u2⟩⟩
  have h5 := opS_0 h6
  refine b_X5_settleBoth_19.go C ⟨trivial, ?_⟩
  refine k_X5_settleBoth_21.go C X (k_countOf d G A n F K L i0 (nI 5) hR hi hup.1) (rest := []) rfl rfl rfl (fun h => absurd rfl h) (lb rfl) (Rq.of (by omega) (by decide) (Nat.le_refl _) (Nat.le_refl _)) ?_
  rintro r G9 ⟨h9, rfl⟩
  replace h9 := h9.symm
  subst h9
  refine b_X5_settleBoth_24.go C ⟨_, _, hR.st (by omega), stC_ci _, nN K 12 i0, Or.inl ⟨5, _, by decide, hR.inp (by omega)⟩, fun h24 => ⟨trivial, ?_⟩, fun h24 => ⟨trivial, ?_⟩⟩
  · have hc : ¬ cntK K i0 (nI 5) = nN K 12 i0 := fun q9 => absurd (congrArg nI q9) h24
    exact V_vret C X d_X5_settleBoth_57 (Nat.zero_le _) (Nat.zero_le _) ⟨rfl, by rw [bthR, if_pos h5, if_neg hc]; exact SP.no hR i0⟩
  have hc : cntK K i0 (nI 5) = nN K 12 i0 := (nI_eq (by omega) (by omega)).mp h24
  have hk1 := hup.2.1
  obtain ⟨-, f2, f3⟩ := hup.1.2.2 0 (by omega)
  obtain ⟨-, l2, l3⟩ := hup.1.2.2 (nN K 12 i0 - 1) (by omega)
  refine b_X5_settleBoth_32.go C ⟨trivial, ?_⟩
  refine k_X5_settleBoth_34.go C X (k_firstInput d G A n F K L i0 hR hi hup.1 hk1) (rest := [.inr (.inr (some (A 1 i0)))]) rfl rfl rfl (fun _ => ⟨_, _, _, rfl, hR.st (by omega), stC_in _⟩) (lb rfl) (Rq.of (by omega) (by decide) (Nat.le_refl _) (Nat.le_refl _)) ?_
  rintro r G9 ⟨h9, rfl⟩
  replace h9 := h9.symm
  subst h9
  refine b_X5_settleBoth_37.go C ⟨_, _, hR.st (by omega), stC_ci _, trivial, ?_⟩
  refine k_X5_settleBoth_41.go C X (k_lastInput d G A n F K L i0 hR hi hup.1 hk1) (rest := [.inl (K 17 (iK K i0 0)), .inr (.inr (some (A 1 i0)))]) rfl rfl rfl (fun _ => ⟨_, _, _, rfl, hR.st (by omega), stC_in _⟩) (lb rfl) (Rq.of (by omega) (by decide) (Nat.le_refl _) (Nat.le_refl _)) ?_
  rintro r G9 ⟨h9, rfl⟩
  replace h9 := h9.symm
  subst h9
  refine b_X5_settleBoth_44.go C ⟨_, _, hR.st (by omega), stC_ci _, _, _, hR.st (by omega), stC_ci _, trivial, ?_⟩
  rw [show sgK K i0 3 = nI kd from hk]
  refine k_X5_settleBoth_51.go C X (k_joined d G A n F K L (K 17 (iK K i0 0)) (K 17 (iK K i0 (nN K 12 i0 - 1))) kd hk2) (rest := [.inr (.inr (some (A 1 i0)))]) rfl rfl rfl (fun h => absurd rfl h) (lb rfl) (Rq.of (by omega) (by decide) (Nat.le_refl _) (Nat.le_refl _)) ?_
  rintro r G9 ⟨h9, rfl⟩
  replace h9 := h9.symm
  subst h9
  refine k_X5_settleBoth_54.go C X (c_gain d G (A 1 i0) _ _ _ _ (hR.st hi)) (rest := []) rfl rfl rfl (fun _ => ⟨_, _, _, rfl, hR.st (by omega), stC_in _⟩) (lb rfl) (Rq.of (by omega) (by decide) (Nat.le_refl _) (Nat.le_refl _)) ?_
  rintro r G9 ⟨rfl, rfl⟩
  exact V_vret C X d_X5_settleBoth_57 (Nat.zero_le _) (Nat.zero_le _) ⟨rfl, by rw [bthR, if_pos h5, if_pos hc, ek]; exact SP.gn hR hi _⟩
end CLC
