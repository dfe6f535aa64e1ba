/-! the class: keep, open, openWork; cooks, cook, isWork, isGroup -/
section CLY
variable {l : Launch} {Y : YT}
theorem KR.md1 {G : GH} {A : AS} {n F : Nat} {K : MS} {L : KL} (h : KR Y G A n F K L) (m : Nat) (v : Int32) (hv : v.toNatClampNeg ≤ n) : KR Y (va_up G (A 19 0) (some (oar 5 200 (fun j => dec A 1 (upd (K 5) m v j))))) A n F (up2 K 5 m v) L := by
  have h1 := h.put1 (k := 19) (i := 0) (f := 5) (j := m) ⟨by decide, rfl⟩ v rfl (by decide) (by decide) (fun _ => hv) (fun q => by cases q)
  have e : cel Y A (up2 K 5 m v) L 19 0 = oar 5 200 (fun j => dec A 1 (upd (K 5) m v j)) := by
    show oar 5 200 (fun j => dec A 1 (up2 K 5 m v 5 j)) = _
    rw [up2_row]
  rw [e] at h1; exact h1
def srvU (K0 : MS) (i : Nat) : Nat → Nat → MS → MS
  | 0, _, K => K
  | q + 1, j, K => srvU K0 i q (j + 1) (up2 K 22 (iK K0 i j) (K 22 (iK K0 i j) + nI 1))
theorem srvU_o (K0 : MS) (i : Nat) : ∀ (q j : Nat) (K : MS) (f : Nat), f ≠ 22 → srvU K0 i q j K f = K f
  | 0, _, _, _, _ => rfl
  | q + 1, j, K, f, h => by rw [srvU, srvU_o K0 i q (j + 1) _ f h, up2_f h]
/-- the new stage t is kept -/
def kepK (K : MS) (t : Nat) : MS := srvU K t (nN K 12 t) 0 (up2 (up2 K 5 (t - 1) (nI t)) 0 0 (nI t))
theorem kep_o {K : MS} {t f j : Nat} (h22 : f ≠ 22) (h5 : f ≠ 5) (h0 : f ≠ 0) : kepK K t f j = K f j := by unfold kepK; rw [srvU_o _ _ _ _ _ f h22, up2_f h0, up2_f h5]
set_option maxHeartbeats 2000000 in
theorem k_keep (d : Nat) (G : GH) (A : AS) (F : Nat) (K : MS) (L : KL) (t : Nat) (hR : KR Y G A (t + 1) F K L) (h0 : K 0 0 = nI t) (hin : inK K (t + 1) (t + 1)) (ht : t < 200) : Cd l yX8_keep cX8_keep 6 (some .boolean) d 0 0 Y [.inr (.inr (some (A 0 0))), .inr (.inr (some (A 1 (t + 1))))] G (fun r G' => r = some (.inl (nI 1)) ∧ KR Y G' A (t + 1) F (kepK K (t + 1)) L) := by
  refine Ct.of (ini := False) (by decide +kernel) False.elim rfl (Nat.le_of_ble_eq_true rfl) ?_
  intro p e s m args below meth c C X
  have hT : 1 ≤ t + 1 ∧ t + 1 ≤ t + 1 := ⟨by omega, Nat.le_refl _⟩
  have R1 := hR.md1 t (nI (t + 1)) (by rw [nI_clamp (by omega)]; exact Nat.le_refl _)
  rw [← dec_up (K 5) (nI (t + 1)) (dec_n rfl (by omega) (by omega))] at R1
  have R2 := R1.m0 (nI (t + 1))
  refine b_X8_keep_0.go C ⟨_, hR.mn, fun _ => ⟨trivial, ?_⟩, fun h => absurd (show K 0 0 < nI 200 by rw [h0]; exact nI_lt ht (by omega)) h⟩
  have e12 : nN (up2 (up2 K 5 t (nI (t + 1))) 0 0 (nI (t + 1))) 12 (t + 1) = nN K 12 (t + 1) := rfl
  have h24 := hin.2.1
  refine b_X8_keep_12.go C ⟨_, hR.mn, _, hR.mn, fun b9 h9 => by cases h9; exact ⟨_, _, hR.st hT, stC_in _⟩, _, _, hR.md, t, h0, ht, lb rfl, _, R1.mn, nI (t + 1), (congrArg (· + nI 1) h0).trans (nI_1 _), _, R1.mn, _, _, R2.st hT, stC_ci _, nN K 12 (t + 1), Or.inl ⟨5, _, by decide, R2.inp hT⟩, trivial, ?_⟩
  refine (show ∀ (q j : Nat) (G1 : GH) (K1 : MS) (o : Option AV), j + q = nN K 12 (t + 1) → KR Y G1 A (t + 1) F K1 L → (∀ f, f ≠ 22 → K1 f = up2 (up2 K 5 t (nI (t + 1))) 0 0 (nI (t + 1)) f) → kepK K (t + 1) = srvU K (t + 1) q j K1 → V p l e (RM d 0 0) s m args below meth c Y (GA G s.heap.size) (QM below args s (RM d 0 0) Y G (fun r G' => r = some (.inl (nI 1)) ∧ KR Y G' A (t + 1) F (kepK K (t + 1)) L)) 43 G1 0 0 [some (.inr (.inr (some (A 0 0)))), some (.inr (.inr (some (A 1 (t + 1))))), some (.inr (.inr (some (A 2 (t + 1))))), some (.inl (nI (nN K 12 (t + 1)))), some (.inl (nI j)), o] [] from ?_) (nN K 12 (t + 1)) 0 _ _ none (by omega) R2 (fun _ _ => rfl) (by unfold kepK; rw [Nat.add_sub_cancel])
  intro q
  induction q with
  | zero =>
    intro j G1 K1 o hj R3 h1 hs
    rw [srvU] at hs
    refine b_X8_keep_43.go C ⟨fun _ => ⟨trivial, ?_⟩, fun h => absurd (nI_le (by omega) (by omega)) h⟩
    refine b_X8_keep_72.go C ⟨trivial, ?_⟩
    exact V_zret C X d_X8_keep_73 z1 (Nat.zero_le _) (Nat.zero_le _) ⟨rfl, by rw [hs]; exact R3⟩
  | succ q ih =>
    intro j G1 K1 o hj R3 h1 hs
    obtain ⟨e1, e2, e3⟩ := hin.2.2 j (by omega)
    have e4 : K1 (1000 + (t + 1)) j = nI (iK K (t + 1) j) := by rw [h1 _ (by omega), up2_f (by omega), up2_f (by omega)]; exact e1
    have e5 : nN K1 12 (t + 1) = nN K 12 (t + 1) := by rw [nN, h1 12 (by decide)]; rfl
    have R4 := R3.pS (i := iK K (t + 1) j) ⟨e2, e3⟩ 12 (K1 22 (iK K (t + 1) j) + nI 1) rfl
    refine b_X8_keep_43.go C ⟨fun h => absurd (show nN K 12 (t + 1) ≤ j from (nI_leI (by omega) (by omega)).mp h) (by omega), fun _ => ⟨trivial, ?_⟩⟩
    refine b_X8_keep_49.go C ⟨_, _, R3.inp hT, j, rfl, by rw [e5]; omega, by omega, _, dec_n e4 e2 (by omega), _, _, R3.st ⟨e2, e3⟩, stC_ci _, _, rfl, _, _, R3.st ⟨e2, e3⟩, stC_ci _, _, nI_1 _, trivial, ?_⟩
    refine ih (j + 1) _ _ _ (by omega) R4 (fun f hf => ?_) (by rw [hs, srvU])
    rw [up2_f hf]; exact h1 f hf
theorem k_keepF (d : Nat) (G : GH) (A : AS) (n F : Nat) (K : MS) (L : KL) (a : Nat) (hR : KR Y G A n F K L) (h0 : K 0 0 = nI 200) : Cd l yX8_keep cX8_keep 6 (some .boolean) d 0 0 Y [.inr (.inr (some (A 0 0))), .inr (.inr (some a))] G (fun r G' => r = some (.inl (nI 0)) ∧ G' = G) := by
  refine Ct.of (ini := False) (by decide +kernel) False.elim rfl (Nat.le_of_ble_eq_true rfl) ?_
  intro p e s m args below meth c C X
  refine b_X8_keep_0.go C ⟨_, hR.mn, fun h => absurd (show K 0 0 < nI 200 from h) (by rw [h0]; exact nI_nlt (Nat.le_refl _) (by omega)), fun _ => ⟨trivial, ?_⟩⟩
  refine b_X8_keep_10.go C ⟨trivial, ?_⟩
  exact V_zret C X d_X8_keep_11 z0 (Nat.zero_le _) (Nat.zero_le _) ⟨rfl, rfl⟩
theorem k_openF (d : Nat) (G : GH) (A : AS) (n F : Nat) (K : MS) (L : KL) (a : Nat) (hR : KR Y G A n F K L) (h0 : K 0 0 = nI 200) : Cd l yX8_open cX8_open 2 (some .int) (d + 1) 0 0 Y [.inr (.inr (some (A 0 0))), .inr (.inr (some a))] G (fun r G' => r = some (.inl (-2)) ∧ G' = G) := by
  refine Ct.of (ini := False) (by decide +kernel) False.elim rfl (Nat.le_of_ble_eq_true rfl) ?_
  intro p e s m args below meth c C X
  refine b_X8_open_0.go C ⟨trivial, ?_⟩
  refine k_X8_open_2.go C X (k_keepF d G A n F K L a hR h0) (rest := []) rfl rfl rfl (fun _ => ⟨_, _, _, rfl, hR.mn, by decide⟩) (lb rfl) (Rq.of (by omega) (by decide) (Nat.le_refl _) (Nat.le_refl _)) ?_
  rintro r G9 ⟨rfl, h9⟩
  replace h9 := h9.symm
  subst h9
  refine b_X8_open_5.go C ⟨fun h => absurd nI_0 h, fun _ => ⟨trivial, ?_⟩⟩
  refine b_X8_open_8.go C ⟨trivial, ?_⟩
  exact V_iret C X d_X8_open_10 (Nat.zero_le _) (Nat.zero_le _) ⟨rfl, rfl⟩
theorem k_openWorkF (d : Nat) (G : GH) (A : AS) (n F : Nat) (K : MS) (L : KL) (a : Nat) (hR : KR Y G A n F K L) (h0 : K 0 0 = nI 200) : Cd l yX8_openWork cX8_openWork 2 (some .int) (d + 1) 0 0 Y [.inr (.inr (some (A 0 0))), .inr (.inr (some a))] G (fun r G' => r = some (.inl (-2)) ∧ G' = G) := by
  refine Ct.of (ini := False) (by decide +kernel) False.elim rfl (Nat.le_of_ble_eq_true rfl) ?_
  intro p e s m args below meth c C X
  refine b_X8_openWork_0.go C ⟨trivial, ?_⟩
  refine k_X8_openWork_2.go C X (k_keepF d G A n F K L a hR h0) (rest := []) rfl rfl rfl (fun _ => ⟨_, _, _, rfl, hR.mn, by decide⟩) (lb rfl) (Rq.of (by omega) (by decide) (Nat.le_refl _) (Nat.le_refl _)) ?_
  rintro r G9 ⟨rfl, h9⟩
  replace h9 := h9.symm
  subst h9
  refine b_X8_openWork_5.go C ⟨fun h => absurd nI_0 h, fun _ => ⟨trivial, ?_⟩⟩
  refine b_X8_openWork_8.go C ⟨trivial, ?_⟩
  exact V_iret C X d_X8_openWork_10 (Nat.zero_le _) (Nat.zero_le _) ⟨rfl, rfl⟩
/-- the new stage n is opened -/
def oA (K : MS) (n F : Nat) : MS := resK (kepK K n) n F (rulR (kepK K n) n)
def oN (K : MS) (n F : Nat) : Nat := resF F (rulR (kepK K n) n)
def opnS (n : Nat) (K : MS) (F : Nat) : MS × Nat := if nI 5 ≤ oA K n F 16 n then conS n (oA K n F, oN K n F) n else (oA K n F, oN K n F)
theorem PhK_kep {K : MS} {t F : Nat} : PhK (kepK K t) F = PhK K F := by
  unfold PhK
  rw [PhL_e (K := K) (K' := kepK K t) (fun f j h => kep_o (fun e => by subst e; unfold isLs at h; omega) (fun e => by subst e; unfold isLs at h; omega) (fun e => by subst e; unfold isLs at h; omega)), nN, kep_o (by decide) (by decide) (by decide), nN, kep_o (by decide) (by decide) (by decide)]; rfl
set_option maxHeartbeats 2000000 in
theorem k_open (d : Nat) (G : GH) (A : AS) (F : Nat) (K : MS) (L : KL) (t : Nat) (I : MS → Nat → KL → Prop) (hP : EnP (t + 1) I) (hR : KR Y G A (t + 1) F K L) (h0 : K 0 0 = nI t) (hin : inK K (t + 1) (t + 1)) (ht : t < 200) (hnum : K 10 (t + 1) = nI (t + 1)) (hrl : rlOk (kepK K (t + 1)) (t + 1) F (t + 1)) (hE1 : nI 5 ≤ oA K (t + 1) F 16 (t + 1) → PeOk (t + 1) (oA K (t + 1) F) (t + 1) ∧ I (nteK (oA K (t + 1) F) (t + 1)) (oN K (t + 1) F) L) (E : MS × Nat) (hE : E = opnS (t + 1) K F) (hEn : E.1 10 (t + 1) = nI (t + 1)) : Cd l yX8_open cX8_open 2 (some .int) (d + 10) (64 + (PhK K F - PhK E.1 E.2)) (64 + (PhK K F - PhK E.1 E.2)) Y [.inr (.inr (some (A 0 0))), .inr (.inr (some (A 1 (t + 1))))] G (fun r G' => r = some (.inl (nI (t + 1))) ∧ ∃ A', KR Y G' A' (t + 1) E.2 E.1 L ∧ AK A A') := by
  refine Ct.of (ini := False) (by decide +kernel) False.elim rfl (Nat.le_of_ble_eq_true rfl) ?_
  intro p e s m args below meth c C X
  have hT : 1 ≤ t + 1 ∧ t + 1 ≤ t + 1 := ⟨by omega, Nat.le_refl _⟩
  have hrc : rsC (rulR (kepK K (t + 1)) (t + 1)) ≤ 64 := by unfold rsC; split <;> omega
  have hpr : PhK (oA K (t + 1) F) (oN K (t + 1) F) ≤ PhK K F := by
    have := PhK_res (K := kepK K (t + 1)) (i := t + 1) (F := F) (r := rulR (kepK K (t + 1)) (t + 1))
    rw [PhK_kep] at this
    exact this
  refine b_X8_open_0.go C ⟨trivial, ?_⟩
  refine k_X8_open_2.go C X (k_keep (d + 9) G A F K L t hR h0 hin ht) (rest := []) rfl rfl rfl (fun _ => ⟨_, _, _, rfl, hR.mn, by decide⟩) (lb rfl) (Rq.of (by omega) (by decide) (Nat.zero_le _) (Nat.zero_le _)) ?_
  rintro r G9 ⟨rfl, R1⟩
  refine b_X8_open_5.go C ⟨fun _ => ⟨trivial, ?_⟩, fun h => absurd h (by decide +kernel)⟩
  refine b_X8_open_11.go C ⟨trivial, ?_⟩
  refine k_X8_open_12.go C X (k_settle (d + 5) G9 A (t + 1) F (kepK K (t + 1)) L (t + 1) R1 hT hrl) (rest := []) rfl rfl rfl (fun h => absurd rfl h) (lb rfl) (Rq.of (by omega) (by decide) (by show _ ≤ 64 + (PhK K F - PhK E.1 E.2); omega) (by show _ ≤ 64 + (PhK K F - PhK E.1 E.2); omega)) ?_
  rintro r G8 ⟨rfl, A2, R2, hX⟩
  have hA2 := hX.ak
  have R2 : KR Y G8 A2 (t + 1) (oN K (t + 1) F) (oA K (t + 1) F) L := R2
  rw [← hA2.kt, ← hA2.sg (t + 1)]
  unfold opnS at hE
  generalize oA K (t + 1) F = K2 at *
  generalize oN K (t + 1) F = F2 at *
  refine b_X8_open_15.go C ⟨trivial, ?_⟩
  refine k_X8_open_16.go C X (c_hasEnded (d + 9) G8 (A2 1 (t + 1)) _ _ _ (R2.st hT)) (rest := []) rfl rfl rfl (fun _ => ⟨_, _, _, rfl, R2.st hT, stC_in _⟩) (lb rfl) (Rq.of (by omega) (by decide) (by show _ ≤ 64 + (PhK K F - PhK E.1 E.2); omega) (by show _ ≤ 64 + (PhK K F - PhK E.1 E.2); omega)) ?_
  rintro r G9 ⟨h9, rfl⟩
  replace h9 := h9.symm
  subst h9
  refine b_X8_open_19.go C ⟨fun h19 => ⟨trivial, ?_⟩, fun h19 => ⟨trivial, ?_⟩⟩
  · have h19 : ¬ nI 5 ≤ K2 16 (t + 1) := wi_0 h19
    rw [if_neg h19] at hE
    subst hE
    have hEn : K2 10 (t + 1) = nI (t + 1) := hEn
    refine b_X8_open_27.go C ⟨_, _, R2.st hT, stC_ci _, trivial, ?_⟩
    exact V_iret C X d_X8_open_31 (by show _ ≤ 64 + (PhK K F - PhK K2 F2); omega) (by show _ ≤ 64 + (PhK K F - PhK K2 F2); omega) ⟨by rw [show sgK K2 (t + 1) 0 = nI (t + 1) from hEn], A2, R2, hA2⟩
  · have h19 : nI 5 ≤ K2 16 (t + 1) := wi_1 h19
    rw [if_pos h19] at hE
    obtain ⟨⟨p1, p2, p3, p4, e0, p5, p6⟩, hIp⟩ := hE1 h19
    have hcl := (con_ok (hP.1 L) (fun K F h => hP.2.1 K F L h) hT (by omega) p2 p3 p4 p5 p6 hIp).2
    have kc := k_conclude (l := l) d G8 A2 (t + 1) F2 K2 L (t + 1) e0 (fun K F => I K F L) (hP.1 L) R2 hT p1 p2 p3 p4 p5 p6 hIp
    rw [← hE] at kc hcl
    refine b_X8_open_22.go C ⟨trivial, ?_⟩
    refine k_X8_open_24.go C X kc (rest := []) rfl rfl rfl (fun _ => ⟨_, _, _, rfl, R2.mn, by decide⟩) (lb rfl) (Rq.of (by omega) (by decide) (by show _ ≤ 64 + (PhK K F - PhK E.1 E.2); omega) (by show _ ≤ 64 + (PhK K F - PhK E.1 E.2); omega)) ?_
    rintro r G7 ⟨rfl, A3, R3, hA3⟩
    rw [← hA3.kt, ← hA3.sg (t + 1)]
    refine b_X8_open_27.go C ⟨_, _, R3.st hT, stC_ci _, trivial, ?_⟩
    exact V_iret C X d_X8_open_31 (by show _ ≤ 64 + (PhK K F - PhK E.1 E.2); omega) (by show _ ≤ 64 + (PhK K F - PhK E.1 E.2); omega) ⟨by rw [show sgK E.1 (t + 1) 0 = nI (t + 1) from hEn], A3, R3, hA2.tr hA3⟩
/-- the new work n is opened -/
def owK (K : MS) (n : Nat) : MS := if K 11 n = nI 4 ∧ frB (kepK K n) n = false then kepK K n else rdyK (kepK K n) n
set_option maxHeartbeats 2000000 in
theorem k_openWork (d : Nat) (G : GH) (A : AS) (F : Nat) (K : MS) (L : KL) (t : Nat) (hR : KR Y G A (t + 1) F K L) (h0 : K 0 0 = nI t) (hin : inK K (t + 1) (t + 1)) (ht : t < 200) (hnum : K 10 (t + 1) = nI (t + 1)) (hw : isWK K (t + 1) = true) (hl : LOk K (t + 1) 0) (hlen : (lsL K 0).length ≤ 300) : Cd l yX8_openWork cX8_openWork 2 (some .int) (d + 8) (PhK K F - PhK (owK K (t + 1)) F) (PhK K F - PhK (owK K (t + 1)) F) Y [.inr (.inr (some (A 0 0))), .inr (.inr (some (A 1 (t + 1))))] G (fun r G' => r = some (.inl (nI (t + 1))) ∧ ∃ A', KR Y G' A' (t + 1) F (owK K (t + 1)) L ∧ AK A A') := by
  refine Ct.of (ini := False) (by decide +kernel) False.elim rfl (Nat.le_of_ble_eq_true rfl) ?_
  intro p e s m args below meth c C X
  have hT : 1 ≤ t + 1 ∧ t + 1 ≤ t + 1 := ⟨by omega, Nat.le_refl _⟩
  have w1 : isWK (kepK K (t + 1)) (t + 1) = true := by rw [wk_e (fun j => kep_o (by decide) (by decide) (by decide))]; exact hw
  have eL : ∀ f j, isLs f → kepK K (t + 1) f j = K f j := fun f j h => kep_o (fun e => by subst e; unfold isLs at h; omega) (fun e => by subst e; unfold isLs at h; omega) (fun e => by subst e; unfold isLs at h; omega)
  have in1 : inK (kepK K (t + 1)) (t + 1) (t + 1) := inK_e (kep_o (by decide) (by decide) (by decide)) (funext (fun j => kep_o (by omega) (by omega) (by omega))) hin
  have num1 : kepK K (t + 1) 10 (t + 1) = nI (t + 1) := (kep_o (by decide) (by decide) (by decide)).trans hnum
  have e11 : kepK K (t + 1) 11 (t + 1) = K 11 (t + 1) := kep_o (by decide) (by decide) (by decide)
  have hcr := PhK_rdy (K := kepK K (t + 1)) (F := F) (t := t + 1) (LOk_e (by decide) eL hl) (by omega) (by rw [lsL_e (by decide) eL]; exact hlen) hT
  rw [PhK_kep] at hcr
  have rdy : ∀ (G1 : GH), KR Y G1 A (t + 1) F (kepK K (t + 1)) L → owK K (t + 1) = rdyK (kepK K (t + 1)) (t + 1) → V p l e (RM (d + 8) (PhK K F - PhK (owK K (t + 1)) F) (PhK K F - PhK (owK K (t + 1)) F)) s m args below meth c Y (GA G s.heap.size) (QM below args s (RM (d + 8) (PhK K F - PhK (owK K (t + 1)) F) (PhK K F - PhK (owK K (t + 1)) F)) Y G (fun r G' => r = some (.inl (nI (t + 1))) ∧ ∃ A', KR Y G' A' (t + 1) F (owK K (t + 1)) L ∧ AK A A')) 26 G1 0 0 [some (.inr (.inr (some (A 0 0)))), some (.inr (.inr (some (A 1 (t + 1)))))] [] := by
    intro G1 R1 eo
    rw [eo]
    refine b_X8_openWork_26.go C ⟨trivial, ?_⟩
    refine k_X8_openWork_28.go C X (k_makeReady d G1 A (t + 1) F (kepK K (t + 1)) L (t + 1) R1 hT w1 (LOk_e (by decide) eL hl) (by rw [lsL_e (by decide) eL]; exact hlen)) (rest := []) rfl rfl rfl (fun _ => ⟨_, _, _, rfl, R1.mn, by decide⟩) (lb rfl) (Rq.of (by omega) (by decide) (by omega) (by omega)) ?_
    rintro r G9 ⟨rfl, A2, R2, hA2⟩
    rw [← hA2.kt, ← hA2.sg (t + 1)]
    have w2 : isWK (rdyK (kepK K (t + 1)) (t + 1)) (t + 1) = true := by
      rw [wk_e (K := kepK K (t + 1)) (fun j => by unfold rdyK; rw [add_o (by decide) (by omega)]; rfl)]; exact w1
    have num2 : rdyK (kepK K (t + 1)) (t + 1) 10 (t + 1) = nI (t + 1) := by unfold rdyK; rw [add_o (by decide) (by omega)]; exact num1
    refine b_X8_openWork_31.go C ⟨_, R2.wk hT w2, trivial, ?_⟩
    exact V_iret C X d_X8_openWork_35 (by show _ ≤ PhK K F - PhK (rdyK (kepK K (t + 1)) (t + 1)) F; omega) (by show _ ≤ PhK K F - PhK (rdyK (kepK K (t + 1)) (t + 1)) F; omega) ⟨by rw [show sgK (rdyK (kepK K (t + 1)) (t + 1)) (t + 1) 0 = nI (t + 1) from num2], A2, R2, hA2⟩
  refine b_X8_openWork_0.go C ⟨trivial, ?_⟩
  refine k_X8_openWork_2.go C X (k_keep (d + 7) G A F K L t hR h0 hin ht) (rest := []) rfl rfl rfl (fun _ => ⟨_, _, _, rfl, hR.mn, by decide⟩) (lb rfl) (Rq.of (by omega) (by decide) (Nat.zero_le _) (Nat.zero_le _)) ?_
  rintro r G9 ⟨rfl, R1⟩
  refine b_X8_openWork_5.go C ⟨fun _ => ⟨trivial, ?_⟩, fun h => absurd h (by decide +kernel)⟩
  refine b_X8_openWork_11.go C ⟨_, R1.wk hT w1, fun h11 => ⟨trivial, ?_⟩, fun h11 => ⟨trivial, ?_⟩⟩
  · have h11 : ¬ kepK K (t + 1) 11 (t + 1) = nI 4 := h11
    rw [e11] at h11
    exact rdy G9 R1 (by rw [owK, if_neg (fun z => h11 z.1)])
  have h11 : kepK K (t + 1) 11 (t + 1) = nI 4 := h11
  rw [e11] at h11
  refine b_X8_openWork_19.go C ⟨trivial, ?_⟩
  refine k_X8_openWork_20.go C X (k_isSetFree (d + 6) G9 A (t + 1) F (kepK K (t + 1)) L (t + 1) R1 hT w1 in1) (rest := []) rfl rfl rfl (fun _ => ⟨_, _, _, rfl, R1.wk hT w1, by decide⟩) (lb rfl) (Rq.of (by omega) (by decide) (Nat.zero_le _) (Nat.zero_le _)) ?_
  rintro r G8 ⟨h9, rfl⟩
  replace h9 := h9.symm
  subst h9
  refine b_X8_openWork_23.go C ⟨fun h23 => ⟨trivial, ?_⟩, fun h23 => ⟨trivial, ?_⟩⟩
  · have h23 := bI_0 h23
    have eo : owK K (t + 1) = kepK K (t + 1) := by rw [owK, if_pos ⟨h11, h23⟩]
    rw [eo]
    refine b_X8_openWork_31.go C ⟨_, R1.wk hT w1, trivial, ?_⟩
    exact V_iret C X d_X8_openWork_35 (Nat.zero_le _) (Nat.zero_le _) ⟨by rw [show sgK (kepK K (t + 1)) (t + 1) 0 = nI (t + 1) from num1], A, R1, AK.rf A⟩
  · have h23 := bI_1 h23
    exact rdy G9 R1 (by rw [owK, if_neg (fun z => by rw [h23] at z; exact absurd z.2 (by decide))])
end CLY
