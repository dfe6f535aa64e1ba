/-! each call on both sides -/
section PRSS
variable {l : Launch} {Y : YT}
theorem PhK_out {K K' : MS} {F : Nat} (h : ∀ f j, isLs f ∨ f = 3 ∨ f = 81 → K' f j = K f j) : PhK K' F = PhK K F := by
  unfold PhK
  rw [PhL_e (K := K) (K' := K') (fun f j q => h f j (Or.inl q)), nN, h 3 0 (Or.inr (Or.inl rfl)), nN, h 81 0 (Or.inr (Or.inr rfl))]; rfl
theorem opn_le {n F : Nat} {K2 : MS} {L2 : KL} {I : MS → Nat → KL → Prop} {E : MS × Nat} (hn : n < 200) (h : OpOk n K2 F L2 I E) : PhK E.1 E.2 ≤ PhK K2 F := by
  obtain ⟨hP, -, -, hE1, hE, -⟩ := h
  have hpr : PhK (oA K2 (n + 1) F) (oN K2 (n + 1) F) ≤ PhK K2 F := by
    have := PhK_res (K := kepK K2 (n + 1)) (i := n + 1) (F := F) (r := rulR (kepK K2 (n + 1)) (n + 1))
    rw [PhK_kep] at this
    exact this
  unfold opnS at hE
  by_cases h19 : nI 5 ≤ oA K2 (n + 1) F 16 (n + 1)
  · rw [if_pos h19] at hE
    obtain ⟨⟨p1, p2, p3, p4, e0, p5, p6⟩, hIp⟩ := hE1 h19
    have hcl := (con_ok (hP.1 L2) (fun K F h => hP.2.1 K F L2 h) ⟨by omega, Nat.le_refl _⟩ (by omega) p2 p3 p4 p5 p6 hIp).2
    rw [hE]
    exact Nat.le_trans hcl hpr
  · rw [if_neg h19] at hE
    rw [hE]
    exact hpr
theorem rn_le {n k F : Nat} {K : MS} {L : KL} {I : MS → Nat → KL → Prop} (hQ : RnK n k I) (hck : ∀ S w, JS I S → S.1 2 0 = nI w → (mnS n S w).1 2 0 = nI w ∧ (lpF (tcS n) k 1 S).1 2 0 = nI w) (hJ : JS I (K, F, L)) (v : Int32) : PhK (rnE n k K F L v).1 (rnE n k K F L v).2.1 ≤ PhK K F := by
  have hQ0 := hQ
  obtain ⟨hP, h1, h2, h3, h4, h5, h6⟩ := hQ
  obtain ⟨w0, ew, ew2, -⟩ := h6 K F L hJ.1
  have hk4 := h4.1
  have hst : ∀ (S : S3) (w : Nat), JS I S → S.1 2 0 = nI w → w < 10000 → JS I (rnS9 n k S w) ∧ PhK (rnS9 n k S w).1 (rnS9 n k S w).2.1 ≤ PhK S.1 S.2.1 ∧ (rnS9 n k S w).1 2 0 = nI (w + 1) := by
    intro S w hS hw hw2
    obtain ⟨a1, a2⟩ := mn_ok hQ0 w hS
    obtain ⟨b1, b2⟩ := lp_ok (n := k) (J := JS I) (tc_st hP h4) k 1 _ a1 (by omega) (by omega)
    have c1 := (hck (mnS n S w) w a1 (hck S w hS hw).1).2
    obtain ⟨d1, d2⟩ := tk_J hQ0 (K := (lpF (tcS n) k 1 (mnS n S w)).1) (F := (lpF (tcS n) k 1 (mnS n S w)).2.1) (L := (lpF (tcS n) k 1 (mnS n S w)).2.2) b1 c1 hw2
    refine ⟨d1, ?_, up2_s (idK k 1 (lpF (tcS n) k 1 (mnS n S w)).1) 2 0 (nI (w + 1))⟩
    show PhK (up2 (idK k 1 (lpF (tcS n) k 1 (mnS n S w)).1) 2 0 (nI (w + 1))) (lpF (tcS n) k 1 (mnS n S w)).2.1 ≤ _
    rw [d2]
    exact Nat.le_trans b2 a2
  have hsq : ∀ (q w : Nat) (S : S3), JS I S → S.1 2 0 = nI w → w + q ≤ 10000 → PhK (rnQ n k q w S).1 (rnQ n k q w S).2.1 ≤ PhK S.1 S.2.1 := by
    intro q
    induction q with
    | zero => intro w S _ _ _; exact Nat.le_refl _
    | succ q ih =>
      intro w S hS hw hq
      obtain ⟨a1, a2, a3⟩ := hst S w hS hw (by omega)
      rw [rnQ]
      exact Nat.le_trans (ih (w + 1) _ a1 a3 (by omega)) a2
  unfold rnE
  by_cases hb : rnB K v = true
  · rw [if_pos hb]
    obtain ⟨b1, b2⟩ := of_decide_eq_true hb
    have hle : v ≤ nI 10000 := by
      by_cases hc : nI 10000 < K 2 0 + nI 400
      · rw [if_pos hc] at b2; exact b2
      · rw [if_neg hc] at b2
        refine Int32.le_trans b2 ?_
        exact Int32.not_lt.mp hc
    obtain ⟨j, j1, j2, rfl⟩ := in_of (a := w0) (b := 10000) (by omega) ⟨ew ▸ b1, hle⟩ (by omega)
    have e2 : nN K 2 0 = w0 := by unfold nN; rw [ew]; exact nI_clamp (by omega)
    rw [e2, nI_clamp (by omega)]
    exact hsq _ _ _ hJ ew (by omega)
  · rw [if_neg hb]
    exact Nat.le_refl _
theorem ow_le {K' : MS} {F t : Nat} (ht : 1 ≤ t ∧ t ≤ 201) (hl : LOk K' t 0) (hlen : (lsL K' 0).length ≤ 300) : PhK (owK K' t) F ≤ PhK K' F := by
  unfold owK
  split
  · rw [PhK_kep]; exact Nat.le_refl _
  · have e : ∀ f j, isLs f → kepK K' t f j = K' f j := fun f j h => kep_o (fun e => by subst e; unfold isLs at h; omega) (fun e => by subst e; unfold isLs at h; omega) (fun e => by subst e; unfold isLs at h; omega)
    have h9 := PhK_rdy (K := kepK K' t) (n := t) (F := F) (t := t) (LOk_e (by decide) e hl) ht.2 (by rw [lsL_e (by decide) e]; exact hlen) ⟨ht.1, Nat.le_refl _⟩
    rw [PhK_kep] at h9
    omega
theorem oww_le {K : MS} {n F tm : Nat} {σ : Nat → Int32} {ls : List Nat} (hrd : rd0 K n) (hn : n ≤ 200) : PhK (owK (mkKw K (n + 1) σ ls tm) (n + 1)) F ≤ PhK K F := by
  have eL : ∀ f i9, isLs f → mkKw K (n + 1) σ ls tm f i9 = K f i9 := stg_ls (by omega)
  have h := ow_le (K' := mkKw K (n + 1) σ ls tm) (F := F) (t := n + 1) ⟨by omega, by omega⟩ (LOk_e (by decide) eL (LOk_n hrd.1)) (by rw [lsL_e (by decide) eL]; exact hrd.2)
  have e : PhK (mkKw K (n + 1) σ ls tm) F = PhK K F := PhK_stg (by omega)
  rwa [e] at h
section
variable {n k w wn F : Nat} {K M : MS} {L : KL}
theorem Rst.jj (hS : Rst n k w F K L M) : JJ (IR n k w 0 (M 3) (M 4)) M := JJ_R.mpr ⟨hS.2.1, rfl, rfl, Nat.le_of_eq hS.2.2.2.2.1, Nat.zero_le _⟩
theorem Rst.rd (hS : Rst n k w F K L M) : rd0 K n := ⟨(hS.1.la 0 (by decide)).1, by have := (hS.1.la 0 (by decide)).2.2; omega⟩
theorem Rst.k1 (hS : Rst n k w F K L M) : K 1 0 = nI k ∧ k ≤ 12 := ⟨by rw [hS.1.nt 1 0 rfl, hS.1.a.2.1], hS.2.1.a.2.2.1⟩
theorem Rst.cw (hS : Rst n k w F K L M) : ∀ c, 1 ≤ c → c ≤ 12 → LOk K n c ∧ ∀ u ∈ lsL K c, isWK K u = true := fun c h1 h2 => by
  refine ⟨(hS.1.la c (by omega)).1, fun u hu => ?_⟩
  rw [(hS.1.p.1 c h1 h2).1] at hu
  obtain ⟨u1, u2, u9, -⟩ := (hS.2.1.p c h2).2.2 u hu
  exact (isW_iff hS.1 hS.2.1 u1 u2).mpr u9
theorem Rst.pl70 (hS : Rst n k w F K L M) : plK K := by
  have h := hS.2.1.fc.2.2.2.2.2.2.2.1
  obtain ⟨q, e1, e2⟩ := h
  refine ⟨hS.1.nt 70 0 rfl, ?_⟩
  rw [hS.1.l.1]
  unfold nN
  rw [e1, nI_clamp (by omega)]
  omega
end
/-- where the two stand -/
def Cor (Y : YT) (GK : GH) (xa : Nat) (GR : GH) (mx : Nat) (ra : Nat → Nat) (wn P : Nat) : Prop := ∃ (A : AS) (n k w F : Nat) (K : MS) (L : KL) (M : MS), KR Y GK A n F K L ∧ A 0 0 = xa ∧ RR GR mx ra M ∧ Rst n k w F K L M ∧ FX wn K F ∧ PhK K F ≤ P
/-- a call of both with the same values: the answers agree, and they stand alike behind it -/
def PS (l : Launch) (Y : YT) (yx : MethodName) (cx : ByteArray) (lx : Nat) (ym : MethodName) (cm : ByteArray) (lm : Nat) (av : List AV) : Prop :=
  ∀ (GK GR : GH) (xa mx : Nat) (ra : Nat → Nat) (wn P : Nat), wn < 100000 → Cor Y GK xa GR mx ra wn P → ∃ (mc : Nat) (post : Option AV → GH → Prop), Cd l yx cx lx (some .int) 14 mc mc Y (.inr (.inr (some xa)) :: av) GK post ∧ mc ≤ P + 160 ∧ ∀ r GK', post r GK' → ∃ (z : Int32) (wn' P' : Nat), r = some (.inl z) ∧ wn' ≤ wn + 1 ∧ mc + P' ≤ P + 160 ∧
    Cd l ym cm lm (some .int) 14 0 0 Y (.inr (.inr (some mx)) :: av) GR (fun r2 GR' => r2 = some (.inl z) ∧ Cor Y GK' xa GR' mx ra wn' P')
def PsC (l : Launch) (Y : YT) (yx : MethodName) (cx : ByteArray) (lx : Nat) (ym : MethodName) (cm : ByteArray) (lm : Nat) (av : List AV) (GK GR : GH) (A : AS) (F : Nat) (K : MS) (mx : Nat) (ra : Nat → Nat) (wn : Nat) : Prop :=
  ∃ (mc : Nat) (post : Option AV → GH → Prop), Cd l yx cx lx (some .int) 14 mc mc Y (.inr (.inr (some (A 0 0))) :: av) GK post ∧ mc ≤ PhK K F + 160 ∧ ∀ r GK', post r GK' → ∃ (z : Int32) (A' : AS) (n' k' w' F' : Nat) (K' : MS) (L' : KL) (M' : MS) (wn' : Nat), r = some (.inl z) ∧ wn' ≤ wn + 1 ∧ mc + PhK K' F' ≤ PhK K F + 160 ∧ KR Y GK' A' n' F' K' L' ∧ A' 0 0 = A 0 0 ∧ Rst n' k' w' F' K' L' M' ∧ FX wn' K' F' ∧
    Cd l ym cm lm (some .int) 14 0 0 Y (.inr (.inr (some mx)) :: av) GR (fun r2 GR' => r2 = some (.inl z) ∧ RR GR' mx ra M')
section
variable {yx ym : MethodName} {cx cm : ByteArray} {lx lm : Nat} {av : List AV}
theorem ps_of (h : ∀ (GK GR : GH) (A : AS) (n k w F : Nat) (K : MS) (L : KL) (M : MS) (mx : Nat) (ra : Nat → Nat) (wn : Nat), wn < 100000 → KR Y GK A n F K L → RR GR mx ra M → Rst n k w F K L M → FX wn K F → PsC l Y yx cx lx ym cm lm av GK GR A F K mx ra wn) : PS l Y yx cx lx ym cm lm av := by
  rintro GK GR xa mx ra wn P hw ⟨A, n, k, w, F, K, L, M, hR, rfl, hM, hS, hX, hP⟩
  obtain ⟨mc, post, c1, hmc, c2⟩ := h GK GR A n k w F K L M mx ra wn hw hR hM hS hX
  refine ⟨mc, post, c1, by omega, fun r GK' hp => ?_⟩
  obtain ⟨z, A', n', k', w', F', K', L', M', wn', rfl, h2, h3, h4, h5, h6, h7, h8⟩ := c2 r GK' hp
  exact ⟨z, wn', PhK K' F', rfl, h2, by omega, h8.mono (fun r2 G2 q => ⟨q.1, A', n', k', w', F', K', L', M', h4, h5, q.2, h6, h7, Nat.le_refl _⟩)⟩
variable {n k w wn F F2 mx : Nat} {K K2 M MM : MS} {L L2 Lf : KL} {P : Prop} {C : Int32} {GK GR : GH} {A : AS} {ra : Nat → Nat}
/-- a call that changes nothing -/
theorem ps_q {z : Int32} (hR : KR Y GK A n F K L) (hM : RR GR mx ra M) (hS : Rst n k w F K L M) (hX : FX wn K F) (c1 : Cd l yx cx lx (some .int) 14 0 0 Y (.inr (.inr (some (A 0 0))) :: av) GK (fun r G' => G' = GK ∧ r = some (.inl z))) (c2 : Cd l ym cm lm (some .int) 14 0 0 Y (.inr (.inr (some mx)) :: av) GR (fun r G' => G' = GR ∧ r = some (.inl z))) : PsC l Y yx cx lx ym cm lm av GK GR A F K mx ra wn :=
  ⟨0, _, c1, by omega, fun r G' hp => ⟨z, A, n, k, w, F, K, L, M, wn, hp.2, by omega, by omega, by rw [hp.1]; exact hR, rfl, hS, hX, c2.mono (fun r2 G2 q => ⟨q.2, by rw [q.1]; exact hM⟩)⟩⟩
/-- a call that costs nothing -/
theorem ps_u {z : Int32} {k' w' : Nat} {K' : MS} {L' : KL} {M' : MS} (c1 : Cd l yx cx lx (some .int) 14 0 0 Y (.inr (.inr (some (A 0 0))) :: av) GK (fun r G' => KR Y G' A n F K' L' ∧ r = some (.inl z))) (hp : PhK K' F = PhK K F) (hS : Rst n k' w' F K' L' M') (hX : FX wn K' F) (c2 : Cd l ym cm lm (some .int) 14 0 0 Y (.inr (.inr (some mx)) :: av) GR (fun r G' => RR G' mx ra M' ∧ r = some (.inl z))) : PsC l Y yx cx lx ym cm lm av GK GR A F K mx ra wn :=
  ⟨0, _, c1, by omega, fun r G' h => ⟨z, A, n, k', w', F, K', L', M', wn, h.2, by omega, by omega, h.1, rfl, hS, hX, c2.mono (fun r2 G2 q => ⟨q.2, q.1⟩)⟩⟩
theorem ps_mk (hS : Rst n k w F K L M) (hX : FX wn K F) (hM : MkS n k w wn F K Lf P C MM M K2 F2 L2) (hle : PhK K2 F2 ≤ PhK K F)
    (ct : ∀ E : MS × Nat, (P → n < 200 → OpOk n K2 F2 L2 (IKw (n + 1) k w wn) E) → Cd l yx cx lx (some .int) 14 (110 + (PhK K F - PhK E.1 E.2)) (110 + (PhK K F - PhK E.1 E.2)) Y (.inr (.inr (some (A 0 0))) :: av) GK (fun r G' => (¬ P ∧ r = some (.inl (-1)) ∧ KR Y G' A n F K L) ∨ (P ∧ n = 200 ∧ r = some (.inl (-2)) ∧ KR Y G' A n F K Lf) ∨ (P ∧ n < 200 ∧ r = some (.inl (nI (n + 1))) ∧ ∃ A', KR Y G' A' (n + 1) E.2 E.1 L2 ∧ A' 0 0 = A 0 0)))
    (cr : Cd l ym cm lm (some .int) 14 0 0 Y (.inr (.inr (some mx)) :: av) GR (fun r G' => RR G' mx ra MM ∧ r = some (.inl C))) : PsC l Y yx cx lx ym cm lm av GK GR A F K mx ra wn := by
  by_cases hc : P ∧ n < 200
  · obtain ⟨⟨o1, o2, o3⟩, o4⟩ := hM.1 hc.1 hc.2
    have ho := opn_le hc.2 o1
    refine ⟨_, _, ct (opnS (n + 1) K2 F2) (fun _ _ => o1), by omega, ?_⟩
    rintro r G' (⟨h, -⟩ | ⟨-, h, -⟩ | ⟨-, -, rfl, A', R', e⟩)
    · exact absurd hc.1 h
    · omega
    · exact ⟨nI (n + 1), A', n + 1, k, w, _, _, _, MM, wn, rfl, by omega, by omega, R', e, o2, o3, cr.mono (fun r2 G2 q => ⟨by rw [q.2, o4], q.1⟩)⟩
  · refine ⟨_, _, ct (K, F) (fun h1 h2 => absurd ⟨h1, h2⟩ hc), by simp, ?_⟩
    rintro r G' (⟨h, rfl, R'⟩ | ⟨h, h2, rfl, R'⟩ | ⟨h, h2, -⟩)
    · obtain ⟨m1, m2⟩ := hM.2.1 h
      exact ⟨-1, A, n, k, w, F, K, L, M, wn, rfl, by omega, by simp; omega, R', rfl, hS, hX, cr.mono (fun r2 G2 q => ⟨by rw [q.2, m1], by rw [← m2]; exact q.1⟩)⟩
    · obtain ⟨m1, m2⟩ := hM.2.2 h h2
      exact ⟨-2, A, n, k, w, F, K, Lf, MM, wn, rfl, by omega, by simp; omega, R', rfl, m2, hX, cr.mono (fun r2 G2 q => ⟨by rw [q.2, m1], q.1⟩)⟩
    · exact absurd ⟨h, h2⟩ hc
theorem ps_mkw {K' : MS} (hS : Rst n k w F K L M) (hX : FX wn K F) (hM : MkW n k w wn F P C MM M K' L2) (hle : PhK K' F ≤ PhK K F)
    (ct : ∀ P9 : Nat, (P → n < 200 → P9 = PhK K' F) → Cd l yx cx lx (some .int) 14 (110 + (PhK K F - P9)) (110 + (PhK K F - P9)) Y (.inr (.inr (some (A 0 0))) :: av) GK (fun r G' => (¬ P ∧ r = some (.inl (-1)) ∧ KR Y G' A n F K L) ∨ (P ∧ n = 200 ∧ r = some (.inl (-2)) ∧ KR Y G' A n F K L) ∨ (P ∧ n < 200 ∧ r = some (.inl (nI (n + 1))) ∧ ∃ A', KR Y G' A' (n + 1) F K' L2 ∧ A' 0 0 = A 0 0)))
    (cr : Cd l ym cm lm (some .int) 14 0 0 Y (.inr (.inr (some mx)) :: av) GR (fun r G' => RR G' mx ra MM ∧ r = some (.inl C))) : PsC l Y yx cx lx ym cm lm av GK GR A F K mx ra wn := by
  by_cases hc : P ∧ n < 200
  · obtain ⟨⟨o2, o3⟩, o4⟩ := hM.1 hc.1 hc.2
    refine ⟨_, _, ct (PhK K' F) (fun _ _ => rfl), by omega, ?_⟩
    rintro r G' (⟨h, -⟩ | ⟨-, h, -⟩ | ⟨-, -, rfl, A', R', e⟩)
    · exact absurd hc.1 h
    · omega
    · exact ⟨nI (n + 1), A', n + 1, k, w, _, _, _, MM, wn, rfl, by omega, by omega, R', e, o2, o3, cr.mono (fun r2 G2 q => ⟨by rw [q.2, o4], q.1⟩)⟩
  · refine ⟨_, _, ct (PhK K F) (fun h1 h2 => absurd ⟨h1, h2⟩ hc), by omega, ?_⟩
    rintro r G' (⟨h, rfl, R'⟩ | ⟨h, h2, rfl, R'⟩ | ⟨h, h2, -⟩)
    · obtain ⟨m1, m2⟩ := hM.2.1 h
      exact ⟨-1, A, n, k, w, F, K, L, M, wn, rfl, by omega, by omega, R', rfl, hS, hX, cr.mono (fun r2 G2 q => ⟨by rw [q.2, m1], by rw [← m2]; exact q.1⟩)⟩
    · obtain ⟨m1, m2⟩ := hM.2.2 h h2
      exact ⟨-2, A, n, k, w, F, K, L, M, wn, rfl, by omega, by omega, R', rfl, hS, hX, cr.mono (fun r2 G2 q => ⟨by rw [q.2, m1], by rw [← m2]; exact q.1⟩)⟩
    · exact absurd ⟨h, h2⟩ hc
end
theorem ps_now  : PS l Y yX8_now cX8_now 1 yX9_now cX9_now 1 [] := by
  refine ps_of (fun GK GR A n k w F K L M mx ra wn hw hR hM hS hX => ?_)
  obtain ⟨e0, e1, a1, e4, md, e2, em, hww⟩ := hS.n0
  have fc := hS.2.1.fc
  have e := e2.trans em.symm
  exact ps_q hR hM hS hX (k_now 14 GK A n F K L hR) (by rw [e]; exact r_now 14 GR mx ra M hM)
theorem ps_stages  : PS l Y yX8_stages cX8_stages 1 yX9_stages cX9_stages 1 [] := by
  refine ps_of (fun GK GR A n k w F K L M mx ra wn hw hR hM hS hX => ?_)
  obtain ⟨e0, e1, a1, e4, md, e2, em, hww⟩ := hS.n0
  have fc := hS.2.1.fc
  have e := e0.trans e1.symm
  exact ps_q hR hM hS hX (k_stages 14 GK A n F K L hR) (by rw [e]; exact r_stages 14 GR mx ra M hM)
theorem ps_state (v : Int32) : PS l Y yX8_state cX8_state 3 yX9_state cX9_state 2 [.inl v] := by
  refine ps_of (fun GK GR A n k w F K L M mx ra wn hw hR hM hS hX => ?_)
  obtain ⟨e0, e1, a1, e4, md, e2, em, hww⟩ := hS.n0
  have fc := hS.2.1.fc
  have e := q_state hS v
  exact ps_q hR hM hS hX (k_state 12 GK A n F K L v hR md) (by rw [e]; exact r_state 12 GR mx ra M n v hM e1 a1)
theorem ps_served (v : Int32) : PS l Y yX8_served cX8_served 3 yX9_served cX9_served 2 [.inl v] := by
  refine ps_of (fun GK GR A n k w F K L M mx ra wn hw hR hM hS hX => ?_)
  obtain ⟨e0, e1, a1, e4, md, e2, em, hww⟩ := hS.n0
  have fc := hS.2.1.fc
  have e := q_served hS v
  exact ps_q hR hM hS hX (k_served 12 GK A n F K L v hR md) (by rw [e]; exact r_served 12 GR mx ra M n v hM e1 a1 (fun t ht => (fc.2.2.2.1 t ht).1))
theorem ps_end (v z : Int32) : PS l Y yX8_end cX8_end 4 yX9_end cX9_end 3 [.inl v, .inl z] := by
  refine ps_of (fun GK GR A n k w F K L M mx ra wn hw hR hM hS hX => ?_)
  obtain ⟨e0, e1, a1, e4, md, e2, em, hww⟩ := hS.n0
  have fc := hS.2.1.fc
  have e := q_end hS v z
  exact ps_q hR hM hS hX (k_end 12 GK A n F K L v z hR md) (by rw [e]; exact r_end 12 GR mx ra M n v z hM e1 a1)
theorem ps_work (v z : Int32) : PS l Y yX8_work cX8_work 5 yX9_work cX9_work 3 [.inl v, .inl z] := by
  refine ps_of (fun GK GR A n k w F K L M mx ra wn hw hR hM hS hX => ?_)
  obtain ⟨e0, e1, a1, e4, md, e2, em, hww⟩ := hS.n0
  have fc := hS.2.1.fc
  have e := q_work hS v z
  exact ps_q hR hM hS hX (k_work 12 GK A n F K L v z hR md) (by rw [e]; exact r_work 11 GR mx ra M n v z hM e1 a1)
theorem ps_pause (v z : Int32) : PS l Y yX8_pause cX8_pause 5 yX9_pause cX9_pause 3 [.inl v, .inl z] := by
  refine ps_of (fun GK GR A n k w F K L M mx ra wn hw hR hM hS hX => ?_)
  obtain ⟨e0, e1, a1, e4, md, e2, em, hww⟩ := hS.n0
  have fc := hS.2.1.fc
  have e := q_pause hS v z
  exact ps_q hR hM hS hX (k_pause 12 GK A n F K L v z hR md (fun t h1 h2 h3 => ⟨(hS.1.pz hS.2.1 h1 h2 h3).1, (hS.1.pz hS.2.1 h1 h2 h3).2.1⟩)) (by rw [e]; exact r_pause 11 GR mx ra M n v z hM e1 a1 fc.2.2.2.2.2.2.2.2.1)
theorem ps_cook (v z : Int32) : PS l Y yX8_cook cX8_cook 5 yX9_cook cX9_cook 3 [.inl v, .inl z] := by
  refine ps_of (fun GK GR A n k w F K L M mx ra wn hw hR hM hS hX => ?_)
  obtain ⟨e0, e1, a1, e4, md, e2, em, hww⟩ := hS.n0
  have fc := hS.2.1.fc
  have e := q_cook hS v z
  exact ps_q hR hM hS hX (k_cook 10 GK A n F K L v z k hR hS.k1.1 hS.k1.2 hS.cw) (by rw [e]; exact r_cook 13 GR mx ra M k v z hM fc.2.1 hS.k1.2 (fun c h => by obtain ⟨q, h1, h2, -⟩ := fc.2.2.2.2.2.2.2.2.2 c h; exact ⟨q, h1, h2⟩))
theorem ps_log (v z : Int32) : PS l Y yX8_log cX8_log 3 yX9_log cX9_log 3 [.inl v, .inl z] := by
  refine ps_of (fun GK GR A n k w F K L M mx ra wn hw hR hM hS hX => ?_)
  obtain ⟨e0, e1, a1, e4, md, e2, em, hww⟩ := hS.n0
  have fc := hS.2.1.fc
  have e := q_log hS v z
  exact ps_q hR hM hS hX (k_log 13 GK A n F K L v z hR (hS.1.jr hS.2.1 (by decide) (by decide))) (by rw [e]; exact (by obtain ⟨g, g1, g2⟩ := fc.2.2.2.2.1; exact r_log 13 GR mx ra M g v z hM g1 (by omega)))
theorem ps_clearPlan  : PS l Y yX8_clearPlan cX8_clearPlan 2 yX9_clearPlan cX9_clearPlan 2 [] := by
  refine ps_of (fun GK GR A n k w F K L M mx ra wn hw hR hM hS hX => ?_)
  obtain ⟨e0, e1, a1, e4, md, e2, em, hww⟩ := hS.n0
  have fc := hS.2.1.fc
  obtain ⟨e, S', X'⟩ := clp_step hS hX
  exact ps_u (k_clearPlan 14 GK A n F K L hR) (PhK_up (by decide) (by decide) (fun q => by unfold isLs at q; omega)) S' X' (by rw [e]; exact r_clearPlan 14 GR mx ra M hM)
theorem ps_plan (u v z : Int32) : PS l Y yX8_plan cX8_plan 4 yX9_plan cX9_plan 5 [.inl u, .inl v, .inl z] := by
  refine ps_of (fun GK GR A n k w F K L M mx ra wn hw hR hM hS hX => ?_)
  obtain ⟨e0, e1, a1, e4, md, e2, em, hww⟩ := hS.n0
  have fc := hS.2.1.fc
  obtain ⟨e, S', X'⟩ := pln_step hS hX u v z
  refine ps_u (k_plan 12 GK A n F K L u v z hR md hS.pl70) ?_ S' X' ?_
  · unfold plnKK
    split
    · unfold putK
      split
      · rw [PhK_up (by decide) (by decide) (fun q => by unfold isLs at q; omega), PhK_up (by decide) (by decide) (fun q => by unfold isLs at q; omega), PhK_up (by decide) (by decide) (fun q => by unfold isLs at q; omega), PhK_up (by decide) (by decide) (fun q => by unfold isLs at q; omega)]
      · rfl
    · rfl
  · rw [e]
    obtain ⟨q, h1, h2⟩ := fc.2.2.2.2.2.2.2.1
    exact r_plan 11 GR mx ra M n q u v z hM e1 a1 h1 (by omega)
theorem Ph_cz (F : Nat) : ∀ (q c : Nat) (K : MS), PhK (czK q c K) F = PhK K F
  | 0, _, _ => rfl
  | q + 1, c, K => by rw [czK, Ph_cz F q (c + 1), PhK_up (by decide) (by decide) (nls (by decide)), PhK_up (by decide) (by decide) (nls (by decide))]
theorem ps_cooks (v : Int32) : PS l Y yX8_cooks cX8_cooks 3 yX9_cooks cX9_cooks 4 [.inl v] := by
  refine ps_of (fun GK GR A n k w F K L M mx ra wn hw hR hM hS hX => ?_)
  obtain ⟨e0, e1, a1, e4, md, e2, em, hww⟩ := hS.n0
  have fc := hS.2.1.fc
  obtain ⟨e, k', S', X'⟩ := ck_step hS hX v
  refine ps_u (k_cooks 13 GK A n F K L v k hR hS.k1.1 hS.k1.2 (fun c _ h => (hS.1.la c (by omega)).1)) ?_ S' X' ?_
  · unfold cksK
    split
    · split
      · rfl
      · rw [PhK_up (by decide) (by decide) (nls (by decide)), Ph_cz]
    · rfl
  · rw [e]
    exact r_cooks 13 GR mx ra M k v hM fc.2.1 hS.k1.2
theorem ps_callOff (v z : Int32) : PS l Y yX8_callOff cX8_callOff 4 yX9_callOff cX9_callOff 3 [.inl v, .inl z] := by
  refine ps_of (fun GK GR A n k w F K L M mx ra wn hw hR hM hS hX => ?_)
  obtain ⟨e0, e1, a1, e4, md, e2, em, hww⟩ := hS.n0
  have fc := hS.2.1.fc
  refine ⟨0, _, k_callOff 12 GK A n F K L v z w hR md e2 hww, by omega, ?_⟩
  have rc := r_callOff (l := l) (Y := Y) 12 GR mx ra M n v z hM e1 a1
  rintro r G' (⟨h, rfl, R'⟩ | ⟨h, rfl, R'⟩)
  · have hb := (co_iff hS v z).mp h
    obtain ⟨S', X'⟩ := cof_step hS hX v z hb
    refine ⟨nI 1, A, n, k, w, F, _, _, _, wn, rfl, by omega, by rw [PhK_up (by decide) (by decide) (nls (by decide))]; omega, R', rfl, S', X', rc.mono ?_⟩
    rintro r2 G2 (⟨-, q1, q2⟩ | ⟨q, -⟩)
    · exact ⟨q1, q2⟩
    · exact absurd hb q
  · refine ⟨-1, A, n, k, w, F, K, L, M, wn, rfl, by omega, by omega, R', rfl, hS, hX, rc.mono ?_⟩
    rintro r2 G2 (⟨q, -⟩ | ⟨-, q1, q2⟩)
    · exact absurd ((co_iff hS v z).mpr q) h
    · exact ⟨q1, q2⟩
theorem ps_run (v : Int32) : PS l Y yX8_run cX8_run 3 yX9_run cX9_run 3 [.inl v] := by
  refine ps_of (fun GK GR A n k w F K L M mx ra wn hw hR hM hS hX => ?_)
  obtain ⟨e0, e1, a1, e4, md, e2, em, hww⟩ := hS.n0
  have fc := hS.2.1.fc
  obtain ⟨e, w', S', X'⟩ := run_step hS hX v
  have hk := hS.k1.2
  have hQ := ik_Rn (n := n) (wn := wn) hk
  have hc := ik_hck (n := n) (wn := wn) hk
  have hle := rn_le hQ hc (hS.js hX) v
  refine ⟨_, _, k_run 3 GK A n k F K L (IK n k wn) hQ hc hR (hS.js hX) v _ rfl, by omega, ?_⟩
  rintro r G' ⟨rfl, A', R', hA⟩
  refine ⟨_, A', n, k, w', _, _, _, _, wn, rfl, by omega, by omega, R', hA.kt, S', X', (r_run 2 GR mx ra M n k w (M 3) (M 4) _ (IR_Rn a1 hk) v hM hww hS.jj).mono ?_⟩
  rintro r2 G2 ⟨q1, q2, -⟩
  exact ⟨by rw [q2, e], q1⟩
theorem ps_then (v z a : Int32) : PS l Y yX8_then cX8_then 5 yX9_then cX9_then 5 [.inl v, .inl z, .inl a] := by
  refine ps_of (fun GK GR A n k w F K L M mx ra wn hw hR hM hS hX => ?_)
  obtain ⟨e0, e1, a1, e4, md, e2, em, hww⟩ := hS.n0
  have fc := hS.2.1.fc
  obtain ⟨hM2, hB⟩ := thn_step hS hX v z a
  refine ps_mk hS hX hM2 (Nat.le_of_eq (PhK_stg (by omega))) (fun E hO => k_then 3 GK A n F K L v z a (IKw (n + 1) k w wn) E hR md hO) ?_
  exact (r_then 4 GR mx ra M n v z a _ _ _ hM e1 a1 e4 hB).mono (fun r2 G2 q => ⟨q.1, q.2.1⟩)
theorem ps_both (v u z : Int32) : PS l Y yX8_both cX8_both 6 yX9_both cX9_both 5 [.inl v, .inl u, .inl z] := by
  refine ps_of (fun GK GR A n k w F K L M mx ra wn hw hR hM hS hX => ?_)
  obtain ⟨e0, e1, a1, e4, md, e2, em, hww⟩ := hS.n0
  have fc := hS.2.1.fc
  obtain ⟨hM2, hB⟩ := bth_step hS hX v u z
  refine ps_mk hS hX hM2 (Nat.le_of_eq (PhK_stg (by omega))) (fun E hO => k_both 3 GK A n F K L v u z (IKw (n + 1) k w wn) E hR md hO) ?_
  exact (r_both 4 GR mx ra M n v u z _ _ _ hM e1 a1 e4 hB).mono (fun r2 G2 q => ⟨q.1, q.2.1⟩)
theorem ps_first (v u : Int32) : PS l Y yX8_first cX8_first 5 yX9_first cX9_first 4 [.inl v, .inl u] := by
  refine ps_of (fun GK GR A n k w F K L M mx ra wn hw hR hM hS hX => ?_)
  obtain ⟨e0, e1, a1, e4, md, e2, em, hww⟩ := hS.n0
  have fc := hS.2.1.fc
  obtain ⟨hM2, hB⟩ := frs_step hS hX v u
  refine ps_mk hS hX hM2 (Nat.le_of_eq (PhK_stg (by omega))) (fun E hO => k_first 3 GK A n F K L v u (IKw (n + 1) k w wn) E hR md hO) ?_
  exact (r_first 4 GR mx ra M n v u _ _ _ hM e1 a1 e4 hB).mono (fun r2 G2 q => ⟨q.1, q.2.1⟩)
theorem ps_onFailure (v z u : Int32) : PS l Y yX8_onFailure cX8_onFailure 6 yX9_onFailure cX9_onFailure 5 [.inl v, .inl z, .inl u] := by
  refine ps_of (fun GK GR A n k w F K L M mx ra wn hw hR hM hS hX => ?_)
  obtain ⟨e0, e1, a1, e4, md, e2, em, hww⟩ := hS.n0
  have fc := hS.2.1.fc
  obtain ⟨hM2, hB⟩ := mof_step hS hX v z u
  refine ps_mk hS hX hM2 (Nat.le_of_eq (PhK_stg (by omega))) (fun E hO => k_onFailure 3 GK A n F K L v z u (IKw (n + 1) k w wn) E hR md hO) ?_
  exact (r_onFailure 4 GR mx ra M n v z u _ _ _ hM e1 a1 e4 hB).mono (fun r2 G2 q => ⟨q.1, q.2.1⟩)
theorem ps_all (v q : Int32) : PS l Y yX8_all cX8_all 3 yX9_all cX9_all 3 [.inl v, .inl q] := by
  refine ps_of (fun GK GR A n k w F K L M mx ra wn hw hR hM hS hX => ?_)
  obtain ⟨e0, e1, a1, e4, md, e2, em, hww⟩ := hS.n0
  have fc := hS.2.1.fc
  obtain ⟨hM2, hB⟩ := all_step hS hX v q
  refine ps_mk hS hX hM2 (Nat.le_of_eq (PhK_stg (by omega))) (fun E hO => k_all 3 GK A n F K L v q (IKw (n + 1) k w wn) E hR md hO) ?_
  exact (r_all 3 GR mx ra M n v q _ _ _ hM e1 a1 e4 hB).mono (fun r2 G2 q => ⟨q.1, q.2.1⟩)
theorem ps_any (v q z : Int32) : PS l Y yX8_any cX8_any 4 yX9_any cX9_any 4 [.inl v, .inl q, .inl z] := by
  refine ps_of (fun GK GR A n k w F K L M mx ra wn hw hR hM hS hX => ?_)
  obtain ⟨e0, e1, a1, e4, md, e2, em, hww⟩ := hS.n0
  have fc := hS.2.1.fc
  obtain ⟨hM2, hB⟩ := any_step hS hX v q z
  refine ps_mk hS hX hM2 (Nat.le_of_eq (PhK_stg (by omega))) (fun E hO => k_any 3 GK A n F K L v q z (IKw (n + 1) k w wn) E hR md hO) ?_
  exact (r_any 3 GR mx ra M n v q z _ _ _ hM e1 a1 e4 hB).mono (fun r2 G2 q => ⟨q.1, q.2.1⟩)
theorem ps_limit (v z : Int32) : PS l Y yX8_limit cX8_limit 5 yX9_limit cX9_limit 4 [.inl v, .inl z] := by
  refine ps_of (fun GK GR A n k w F K L M mx ra wn hw hR hM hS hX => ?_)
  obtain ⟨e0, e1, a1, e4, md, e2, em, hww⟩ := hS.n0
  have fc := hS.2.1.fc
  obtain ⟨hM2, hB⟩ := lim_step hS hX v z
  refine ps_mk hS hX hM2 (Nat.le_of_eq (PhK_stg (by omega))) (fun E hO => k_limit 3 GK A n F K L v z w (IKw (n + 1) k w wn) E hR md e2 hww hO) ?_
  exact (r_limit 4 GR mx ra M n v z _ _ _ hM e1 a1 e4 hB).mono (fun r2 G2 q => ⟨q.1, q.2.1⟩)
theorem ps_value (v : Int32) : PS l Y yX8_value cX8_value 3 yX9_value cX9_value 3 [.inl v] := by
  refine ps_of (fun GK GR A n k w F K L M mx ra wn hw hR hM hS hX => ?_)
  obtain ⟨e0, e1, a1, e4, md, e2, em, hww⟩ := hS.n0
  have fc := hS.2.1.fc
  obtain ⟨hM2, hB⟩ := val_step hS hX v
  refine ps_mk hS hX hM2 (by
    unfold gainK
    rw [PhK_up (by decide) (by decide) (nls (by decide)), PhK_up (by decide) (by decide) (nls (by decide))]
    exact Nat.le_of_eq (PhK_stg (by omega))) (fun E hO => (k_value 3 GK A n F K L v (IKw (n + 1) k w wn) E hR md (hO trivial)).mono (fun r G' h => h.elim (fun h => Or.inr (Or.inl ⟨trivial, h⟩)) (fun h => Or.inr (Or.inr ⟨trivial, h⟩)))) ?_
  exact (r_value 5 GR mx ra M n v _ _ _ hM e1 a1 hB).mono (fun r2 G2 q => ⟨q.1, q.2.1⟩)
theorem ps_failed (v : Int32) : PS l Y yX8_failed cX8_failed 3 yX9_failed cX9_failed 3 [.inl v] := by
  refine ps_of (fun GK GR A n k w F K L M mx ra wn hw hR hM hS hX => ?_)
  obtain ⟨e0, e1, a1, e4, md, e2, em, hww⟩ := hS.n0
  have fc := hS.2.1.fc
  have hF : F + 1 ≤ 2000 := by
    have h1 := (hS.2.1.bd (by decide) (by decide)).2.1
    rw [hS.1.f.1] at h1
    omega
  obtain ⟨hM2, hB⟩ := fld_step hS hX v
  refine ps_mk hS hX hM2 (by
    have h9 := PhK_res (K := mkK K (n + 1) (beg n (nI 0) (nI 0) (nI 0)) []) (i := n + 1) (F := F) (r := rsF v 0 0 (fun _ => 0))
    have e9 : PhK (mkK K (n + 1) (beg n (nI 0) (nI 0) (nI 0)) []) F = PhK K F := PhK_stg (by omega)
    rw [e9] at h9
    exact h9) (fun E hO => k_failed 3 GK A n F K L v (IKw (n + 1) k w wn) E hR md hF hO) ?_
  exact (r_failed 5 GR mx ra M n v _ _ _ hM e1 a1 e4 hB).mono (fun r2 G2 q => ⟨q.1, q.2.1⟩)
theorem ps_task (v z a : Int32) : PS l Y yX8_task cX8_task 4 yX9_task cX9_task 4 [.inl v, .inl z, .inl a] := by
  refine ps_of (fun GK GR A n k w F K L M mx ra wn hw hR hM hS hX => ?_)
  obtain ⟨e0, e1, a1, e4, md, e2, em, hww⟩ := hS.n0
  have fc := hS.2.1.fc
  have hM2 := tsk_step hS hX v z a
  exact ps_mkw hS hX hM2 (oww_le hS.rd a1) (fun P9 h9 => k_task 3 GK A n F K L v z a P9 hR md hS.rd h9) (r_task 12 GR mx ra M n v z a hM e1 a1 e4)
theorem ps_retry (v z a u p : Int32) : PS l Y yX8_retry cX8_retry 7 yX9_retry cX9_retry 7 [.inl v, .inl z, .inl a, .inl u, .inl p] := by
  refine ps_of (fun GK GR A n k w F K L M mx ra wn hw hR hM hS hX => ?_)
  obtain ⟨e0, e1, a1, e4, md, e2, em, hww⟩ := hS.n0
  have fc := hS.2.1.fc
  have hM2 := rty_step hS hX v z a u p
  exact ps_mkw hS hX hM2 (oww_le hS.rd a1) (fun P9 h9 => k_retry 3 GK A n F K L v z a u p P9 hR md hS.rd h9) (r_retry 12 GR mx ra M n v z a u p hM e1 a1 e4)
theorem ps_nested (v z a u : Int32) : PS l Y yX8_nested cX8_nested 6 yX9_nested cX9_nested 6 [.inl v, .inl z, .inl a, .inl u] := by
  refine ps_of (fun GK GR A n k w F K L M mx ra wn hw hR hM hS hX => ?_)
  obtain ⟨e0, e1, a1, e4, md, e2, em, hww⟩ := hS.n0
  have fc := hS.2.1.fc
  have hM2 := nst_step hS hX v z a u
  exact ps_mkw hS hX hM2 (oww_le hS.rd a1) (fun P9 h9 => k_nested 3 GK A n F K L v z a u P9 hR md hS.rd h9) (r_nested 11 GR mx ra M n v z a u hM e1 a1 e4)
theorem ps_always (v z u a : Int32) : PS l Y yX8_always cX8_always 7 yX9_always cX9_always 7 [.inl v, .inl z, .inl u, .inl a] := by
  refine ps_of (fun GK GR A n k w F K L M mx ra wn hw hR hM hS hX => ?_)
  obtain ⟨e0, e1, a1, e4, md, e2, em, hww⟩ := hS.n0
  have fc := hS.2.1.fc
  obtain ⟨h1, h2, h3, h4, h5⟩ := alw_step hS hX v z u a
  have cr := (r_always (l := l) (Y := Y) 4 GR mx ra M n v z u a _ _ _ hM e1 a1 e4 h4 h5)
  have hle : PhK (aK1 n K v z u a) F ≤ PhK K F := oww_le hS.rd a1
  by_cases hc : alwP K v z u ∧ n < 199
  · obtain ⟨⟨o1, o2, o3⟩, o4⟩ := h1 hc.1 hc.2
    have ho := opn_le (by omega) o1
    have ho2 : PhK (aK2 n K v z u a) F = PhK (aK1 n K v z u a) F := PhK_stg (by omega)
    rw [ho2] at ho
    refine ⟨_, _, k_always 3 GK A n F K L v z u a (IKw (n + 1 + 1) k w wn) (opnS (n + 1 + 1) (aK2 n K v z u a) F) (PhK (aK1 n K v z u a) F) hR md hS.rd (fun _ _ => rfl) (fun _ _ => ⟨?_, o1⟩), by omega, ?_⟩
    · exact mdK_alw md (by omega)
    rintro r G' (⟨h, -⟩ | ⟨-, h, -⟩ | ⟨-, -, rfl, A', R', e⟩)
    · exact absurd hc.1 h
    · omega
    · exact ⟨nI (n + 2), A', n + 2, k, w, _, _, _, _, wn, rfl, by omega, by omega, R', e, o2, o3, cr.mono (fun r2 G2 q => ⟨by rw [q.2.1, o4], q.1⟩)⟩
  · refine ⟨_, _, k_always 3 GK A n F K L v z u a (IKw (n + 1 + 1) k w wn) (K, F) (PhK K F) hR md hS.rd (fun h1 h2 => absurd ⟨h1, h2⟩ hc) (fun h1 h2 => absurd ⟨h1, h2⟩ hc), by simp, ?_⟩
    rintro r G' (⟨h, rfl, R'⟩ | ⟨h, hn, rfl, R'⟩ | ⟨h, hn, -⟩)
    · obtain ⟨m1, m2⟩ := h2 h
      exact ⟨-1, A, n, k, w, F, K, L, M, wn, rfl, by omega, by simp; omega, R', rfl, hS, hX, cr.mono (fun r2 G2 q => ⟨by rw [q.2.1, m1], by rw [← m2]; exact q.1⟩)⟩
    · obtain ⟨m1, m2⟩ := h3 h hn
      exact ⟨-2, A, n, k, w, F, K, L, M, wn, rfl, by omega, by simp; omega, R', rfl, hS, hX, cr.mono (fun r2 G2 q => ⟨by rw [q.2.1, m1], by rw [← m2]; exact q.1⟩)⟩
    · exact absurd ⟨h, hn⟩ hc
end PRSS
