/-! calling off by name; a new kitchen -/
section INIS
variable {n k F w x y d wn : Nat} {K K1 K2 K' : MS} {L L1 L' : KL} {M M1 M' : MS} {t h c b : Nat}
theorem co_iff (hS : Rst n k w F K L M) (v z : Int32) : coOk K v z ↔ coB M v z := by
  obtain ⟨e0, e1, a1, e4, md, e2, em, hw⟩ := hS.n0
  have hR := hS.1
  have hI := hS.2.1
  unfold coOk coB
  rw [e0, e1, e2, em]
  constructor
  · rintro ⟨h1, h2, h3⟩
    refine ⟨h1, ?_, h3⟩
    obtain ⟨u, rfl, u1, u2⟩ := nI_btw (by decide) (by omega) h1
    rw [nI_clamp (by omega)] at h2 ⊢
    exact (hI.nt.z rfl).mpr (Classical.byContradiction (fun q => h2 ((hR.k16 hI u1 u2).1.mpr q)))
  · rintro ⟨h1, h2, h3⟩
    refine ⟨h1, ?_, h3⟩
    obtain ⟨u, rfl, u1, u2⟩ := nI_btw (by decide) (by omega) h1
    rw [nI_clamp (by omega)] at h2 ⊢
    exact fun q => ((hR.k16 hI u1 u2).1.mp q) ((hI.nt.z rfl).mp h2)
theorem cof_step (hS : Rst n k w F K L M) (hX : FX wn K F) (v z : Int32) (hc : coB M v z) : Rst n k w F (up2 K 21 v.toNatClampNeg z) (mrkL L z.toNatClampNeg) (up2 M 14 v.toNatClampNeg z) ∧ FX wn (up2 K 21 v.toNatClampNeg z) F := by
  obtain ⟨e0, e1, a1, e4, md, e2, em, hw⟩ := hS.n0
  obtain ⟨h1, h2, h3⟩ := hc
  rw [e1] at h1
  rw [em] at h3
  obtain ⟨u, rfl, u1, u2⟩ := nI_btw (by decide) (by omega) h1
  obtain ⟨q, rfl, q1, q2⟩ := nI_btw (by omega) (by decide) h3
  rw [nI_clamp (by omega), nI_clamp (by omega)]
  have S1 := hS.mrk q
  obtain ⟨hR, hI, hN, h13, h17, hQ⟩ := S1
  have oK : ∀ f, f ≠ 21 → up2 K 21 u (nI q) f = K f := fun f h => up2_f h
  have oM : ∀ f, f ≠ 14 → up2 M 14 u (nI q) f = M f := fun f h => up2_f h
  have els : ∀ f j, isLs f → up2 K 21 u (nI q) f j = K f j := up_ls (by unfold isLs; omega)
  have e : ∀ f, f ≠ 14 → nN (up2 M 14 u (nI q)) f = nN M f := fun f h => nN_f h
  have epl : plM (up2 M 14 u (nI q)) = plM M := funext (fun c => pl_e (oM 46 (by decide)) (oM 47 (by decide)))
  have I2 : Inv n k w 0 0 (up2 M 14 u (nI q)) := by
    obtain ⟨h0, ⟨-, a2, a3, a4, a5, a6, a7⟩, h2, h3, h4, h5, h6, h7, h8, h9⟩ := hI
    refine ⟨h0.upx rfl, ⟨a1, a2, a3, a4, by rw [e 1 (by decide)]; exact a5, by rw [e 45 (by decide)]; exact a6, by rw [e 0 (by decide)]; exact a7⟩, ?_, ?_, ?_, ?_, ?_, ?_, ?_, ?_⟩
    · show iS n _ _ _ _ _ _ _ _
      rw [e 2 (by decide), e 3 (by decide), e 4 (by decide), e 5 (by decide), e 7 (by decide), e 18 (by decide), e 29 (by decide), e 30 (by decide)]; exact h2
    · show iZ n _ _ _ _ _ _ _ _ _ _ _ _ _ _ _
      rw [e 4 (by decide), e 7 (by decide), e 8 (by decide), e 9 (by decide), e 10 (by decide), e 13 (by decide), e 21 (by decide), e 22 (by decide), e 25 (by decide), e 26 (by decide), e 27 (by decide), e 29 (by decide), e 30 (by decide), oM 11 (by decide)]
      intro t p1 p2
      obtain ⟨z1, y1, y2, y3, y4, y5, y6, y7⟩ := h3 t p1 p2
      exact ⟨z1, y1, y2, y3, y4, y5, y6, by rw [up2_n (by omega)]; exact y7⟩
    · show iD n 12 _ _ _ _ _ _ _ _
      rw [e 2 (by decide), e 8 (by decide), e 19 (by decide), e 21 (by decide), e 24 (by decide), e 25 (by decide), e 27 (by decide), e 29 (by decide)]; exact h4
    · show iE n _ _ _ _
      rw [e 16 (by decide), e 8 (by decide), e 10 (by decide), e 15 (by decide)]; exact h5
    · show iF n _ _ _ _ _ _ _ _ _ _ _
      rw [e 38 (by decide), e 40 (by decide), e 8 (by decide), e 12 (by decide), e 27 (by decide), e 31 (by decide), e 33 (by decide), e 36 (by decide), e 37 (by decide), e 39 (by decide), oM 35 (by decide)]; exact h6
    · show iB n _ _ _ _ _ _ _ _ _ _ _ _
      rw [e 16 (by decide), e 38 (by decide), e 40 (by decide), e 53 (by decide), e 2 (by decide), e 8 (by decide), e 19 (by decide), e 21 (by decide), e 24 (by decide), e 27 (by decide)]; exact h7
    · show iP n k _ _ _ _ _
      rw [e 2 (by decide), e 8 (by decide), e 19 (by decide), e 25 (by decide), epl]; exact h8
    · show iH _ _ _ _
      rw [e 44 (by decide), e 41 (by decide), e 42 (by decide), e 43 (by decide)]; exact h9
  have mo : ∀ (p : Nat → Bool), (∀ f, p f = true → f ≠ 14) → ∀ f, p f = true → up2 M 14 u (nI q) f = M f := fun p hp f hf => oM f (hp f hf)
  have ko : ∀ (p : Nat → Bool), (∀ f, p f = true → f ≠ 21) → ∀ f, p f = true → up2 K 21 u (nI q) f = K f := fun p hp f hf => oK f (hp f hf)
  have R2 : Rel n k F (up2 K 21 u (nI q)) (mrkL L q) (up2 M 14 u (nI q)) := by
    obtain ⟨r1, r2, r3, r4, r5, r6, r7, r8, r9, r10, r11, r12⟩ := hR
    refine ⟨r1.upx rfl, r2.cg els, r3.cg (ko _ (fun f hf => by have := of_decide_eq_true hf; omega)) (mo _ (fun f hf => by have := of_decide_eq_true hf; omega)), r4.cg a1 (ko _ (fun f hf => by have := of_decide_eq_true hf; omega)) (mo _ (fun f hf => by have := of_decide_eq_true hf; omega)), fun t t1 t2 => ?_, r6.cg a1 (ko _ (fun f hf => by have := of_decide_eq_true hf; omega)) (mo _ (fun f hf => by have := of_decide_eq_true hf; omega)), r7.cg (ko _ (fun f hf => by have := of_decide_eq_true hf; omega)) (mo _ (fun f hf => by have := of_decide_eq_true hf; omega)), r8.cg (fun c hc => lsL_e (by omega) els) (ko _ (fun f hf => by have := of_decide_eq_true hf; omega)) (mo _ (fun f hf => by have := of_decide_eq_true hf; omega)), r9.cg (ko _ (fun f hf => by have := of_decide_eq_true hf; omega)) (mo _ (fun f hf => by have := of_decide_eq_true hf; omega)), r10.cg (ko _ (fun f hf => by have := of_decide_eq_true hf; omega)) (mo _ (fun f hf => by have := of_decide_eq_true hf; omega)), fun t t1 t2 t3 => ?_, r12.cg (oM 3 (by decide)) (oM 4 (by decide))⟩
    · have s := r5 t t1 t2
      rw [nN_e (oK 16 (by decide)), oK 17 (by decide), nN_e (oK 18 (by decide)), nN_e (oK 19 (by decide)), nN_e (oK 20 (by decide)), nN_e (oK 22 (by decide)), e 2 (by decide), e 8 (by decide), e 19 (by decide), oM 11 (by decide), e 12 (by decide), e 9 (by decide), e 10 (by decide), srvN_e (oM 1 (by decide)) (oM 3 (by decide)) (oM 4 (by decide)) (oM 8 (by decide))]
      refine ⟨s.1, s.2.1, s.2.2.1, s.2.2.2.1, s.2.2.2.2.1, ?_, s.2.2.2.2.2.2⟩
      by_cases c : t = u
      · subst c; rw [up2_s, up2_s]
      · rw [up2_n (by omega), up2_n (by omega)]; exact s.2.2.2.2.2.1
    · rw [e 8 (by decide)] at t3
      obtain ⟨g1, g2, g3⟩ := r11 t t1 t2 t3
      rw [e 2 (by decide), e 32 (by decide), e 19 (by decide), e 23 (by decide), e 27 (by decide), e 28 (by decide)]
      refine ⟨fun v hv z => ?_, g2, g3⟩
      by_cases c : t = u
      · subst c
        rw [up2_s, nI_eq (by omega) (by omega)] at z
        subst z
        exact mrk_s hv
      · rw [up2_n (by omega)] at z; exact g1 v hv z
  refine ⟨⟨R2, I2, fun t t1 t2 t3 => ?_, by rw [lsL_e (by decide) els]; exact h13, by rw [e 17 (by decide), e 16 (by decide)]; exact h17, fun t t1 t2 => ?_⟩, hX.ot (Fx.up (by decide))⟩
  · rw [e 8 (by decide)] at t3
    rw [e 13 (by decide), e 26 (by decide)]; exact hN t t1 t2 t3
  · refine (hQ t t1 t2).keep hR hI R2 I2 t1 t2 (mo _ (fun f hf => by have := of_decide_eq_true hf; omega)) (fun z => by rw [e 8 (by decide)] at z; exact z) (fun _ z => by rw [e 19 (by decide)] at z; exact z) (fun s _ => by rw [e 8 (by decide)]) (fun s _ _ => by rw [e 12 (by decide)]) (fun g _ => by rw [e 33 (by decide)]) (by rw [e 38 (by decide)]; exact Nat.le_refl _)
/-! a new kitchen -/
theorem ofF_at : ∀ (q t : Nat) (M : MS) (f i : Nat), ofF q t M f i = if f = 14 ∧ t ≤ i ∧ i < t + q then -1 else M f i
  | 0, t, M, f, i => by rw [if_neg (by omega)]; rfl
  | q + 1, t, M, f, i => by
    rw [ofF, ofF_at q (t + 1)]
    by_cases c : f = 14 ∧ t ≤ i ∧ i < t + (q + 1)
    · rw [if_pos c]
      by_cases ci : i = t
      · subst ci
        rw [if_neg (by omega), c.1, up2_s]
      · rw [if_pos (by omega)]
    · rw [if_neg c, if_neg (by omega), up2_n (by omega)]
theorem M0_o {f i : Nat} (h : f ≠ 14) (h2 : f ≠ 45) : M0 f i = 0 := by
  unfold M0 M01
  rw [ofF_at, if_neg (fun z => h z.1), up2_f h2]; rfl
theorem M0_14 {i : Nat} (h : i ≤ 200) : M0 14 i = -1 := by
  unfold M0; rw [ofF_at, if_pos (by omega)]
theorem M0_45 : M0 45 0 = nI 1 := by
  unfold M0 M01; rw [ofF_at, if_neg (by omega), up2_s]
theorem nN_M0 {f i : Nat} (h : f ≠ 14) (h2 : f ≠ 45) : nN M0 f i = 0 := by unfold nN; rw [M0_o h h2]; decide +kernel
theorem M0_nt : NT exM M0 := fun f i hf => by
  by_cases h : f = 14
  · subst h; cases hf
  · by_cases h2 : f = 45
    · subst h2
      unfold nN
      by_cases hi : i = 0
      · subst hi; rw [M0_45]; exact nI_cl (by decide)
      · have : M0 45 i = 0 := by unfold M0 M01; rw [ofF_at, if_neg (by omega), up2_n (by omega)]; rfl
        rw [this]; exact z_cl
    · rw [nN_M0 h h2, M0_o h h2, nI_0]
theorem Inv_M0 : Inv 0 1 0 0 0 M0 := by
  have z : ∀ f i, f ≠ 14 → f ≠ 45 → nN M0 f i = 0 := fun f i h1 h2 => nN_M0 h1 h2
  refine ⟨M0_nt, ⟨by decide, by decide, by decide, by decide, z 1 0 (by decide) (by decide), ?_, z 0 0 (by decide) (by decide)⟩, ⟨z 4 0 (by decide) (by decide), fun t h1 h2 => by omega⟩, fun t h1 h2 => ?_, fun t h1 h2 => by omega, ⟨fun p h1 h2 => ?_, fun s h1 h2 => by omega, ?_, z 8 0 (by decide) (by decide), z 10 0 (by decide) (by decide)⟩, ⟨fun g hg => ?_, ?_, fun t h1 h2 => by omega, fun t h1 h2 => by omega⟩, ⟨?_, ?_, ?_⟩, fun c hc => ?_, ⟨?_, fun i hi => ?_, fun i j hij hj => ?_⟩⟩
  · unfold nN; rw [M0_45]; decide +kernel
  · exact ⟨⟨z 4 t (by decide) (by decide), z 7 t (by decide) (by decide), z 8 t (by decide) (by decide), z 9 t (by decide) (by decide), z 10 t (by decide) (by decide), z 13 t (by decide) (by decide), z 21 t (by decide) (by decide), z 22 t (by decide) (by decide)⟩, z 25 t (by decide) (by decide), z 26 t (by decide) (by decide), z 27 t (by decide) (by decide), z 29 t (by decide) (by decide), z 30 t (by decide) (by decide), M0_o (by decide) (by decide), M0_14 h2⟩
  · rw [z 16 0 (by decide) (by decide)] at h2; omega
  · rw [z 16 0 (by decide) (by decide)]; rfl
  · rw [z 38 0 (by decide) (by decide)] at hg; omega
  · rw [z 38 0 (by decide) (by decide), z 40 0 (by decide) (by decide)]; exact Nat.le_refl _
  · rw [z 38 0 (by decide) (by decide)]; exact Nat.zero_le _
  · rw [z 40 0 (by decide) (by decide)]; exact Nat.zero_le _
  · rw [z 53 0 (by decide) (by decide)]; exact Nat.zero_le _
  · have e : plM M0 c = [] := List.eq_nil_of_length_eq_zero (by rw [pl_len]; exact z 47 c (by decide) (by decide))
    rw [e]
    exact ⟨List.nodup_nil, fun _ => rfl, fun u hu => by cases hu⟩
  · rw [z 44 0 (by decide) (by decide)]; decide
  · rw [z 44 0 (by decide) (by decide)] at hi; omega
  · rw [z 44 0 (by decide) (by decide)] at hj; omega
/-- a new kitchen, with nothing said of cooks that there are not -/
def K01 : MS := fun f i => if f = 60 ∧ 12 < i then 0 else K0 f i
theorem K01_o {f : Nat} (h : f ≠ 60) : K01 f = K0 f := funext (fun i => by unfold K01; rw [if_neg (fun z => h z.1)])
theorem K01_nt : NT exK K01 := fun f i hf => by
  unfold nN K01
  split
  · exact z_cl
  · rename_i h
    unfold K0
    split
    · exact nI_cl (by decide)
    · split
      · exact nI_cl (by omega)
      · split
        · exact nI_cl (by decide)
        · exact z_cl
theorem Rst_0 : Rst 0 1 0 0 K01 L0 M0 ∧ FX 0 K01 0 := by
  have z : ∀ f i, f ≠ 14 → f ≠ 45 → nN M0 f i = 0 := fun f i h1 h2 => nN_M0 h1 h2
  have k : ∀ f i, f ≠ 1 → f ≠ 60 → f ≠ 81 → nN K01 f i = 0 := fun f i h1 h2 h3 => by rw [nN_e (K01_o h2)]; exact nN_K0 h1 h2 h3
  have k0 : ∀ f i, f ≠ 1 → f ≠ 60 → f ≠ 81 → K01 f i = 0 := fun f i h1 h2 h3 => by rw [K01_o h2]; unfold K0; rw [if_neg h1, if_neg h2, if_neg h3]
  have els : ∀ f j, isLs f → K01 f j = K0 f j := fun f j hf => by rw [K01_o (by unfold isLs at hf; omega)]
  have ll : ∀ a, a ≤ 13 → lsL K01 a = [] := fun a ha => by rw [lsL_e ha els]; exact lsL_K0 a ha
  refine ⟨⟨⟨K01_nt, (LA_K0 0).cg els, ⟨k 0 0 (by decide) (by decide) (by decide), ?_, ?_, ?_, fun j hj => by omega⟩, fun t h1 h2 => by omega, fun t h1 h2 => by omega, fun t h1 h2 => by omega, ⟨z 38 0 (by decide) (by decide), fun g hg => by omega⟩, ⟨fun c h1 h2 => ⟨?_, ?_⟩, fun u => ?_, fun c h1 h2 => ⟨?_, ?_⟩⟩, ⟨?_, fun j hj => ?_⟩, ⟨?_, ?_, fun j hj => ?_⟩, fun t h1 h2 => by omega, fun t h1 h2 => by omega⟩, Inv_M0, fun t h1 h2 => by omega, ll 13 (by decide), by rw [z 17 0 (by decide) (by decide), z 16 0 (by decide) (by decide)], fun t h1 h2 => by omega⟩, k0 4 0 (by decide) (by decide) (by decide), fun f h1 h2 => by omega⟩
  · rw [nN_e (K01_o (by decide))]; unfold nN K0; rw [if_pos rfl]; decide +kernel
  · rw [k 2 0 (by decide) (by decide) (by decide), z 0 0 (by decide) (by decide)]
  · rw [k 3 0 (by decide) (by decide) (by decide), z 16 0 (by decide) (by decide)]
  · rw [ll c (by omega)]
    exact (List.eq_nil_of_length_eq_zero (by rw [pl_len]; exact z 47 c (by decide) (by decide))).symm
  · unfold nN K01; rw [if_neg (by omega)]; unfold K0; rw [if_neg (by decide), if_pos rfl, nI_clamp (by omega)]
  · rw [ll 0 (by decide)]
    exact ⟨fun q => (by cases q), fun q => by omega⟩
  · rw [k0 61 c (by decide) (by decide) (by decide), M0_o (by decide) (by decide)]
  · rw [k0 62 c (by decide) (by decide) (by decide), M0_o (by decide) (by decide)]
  · rw [k 70 0 (by decide) (by decide) (by decide), z 44 0 (by decide) (by decide)]
  · rw [z 44 0 (by decide) (by decide)] at hj; omega
  · rw [k 80 0 (by decide) (by decide) (by decide), z 53 0 (by decide) (by decide)]
  · rw [k 80 0 (by decide) (by decide) (by decide), nN_e (K01_o (by decide)), nN_81]; decide
  · rw [z 53 0 (by decide) (by decide)] at hj; omega
theorem KR_01 {Y : YT} {G : GH} {A : AS} (h : KR Y G A 0 0 K0 L0) : KR Y G A 0 0 K01 L0 := by
  have el : liv 0 0 K01 = liv 0 0 K0 := by
    have e1 : ∀ i, isWK K01 i = isWK K0 i := fun i => by unfold isWK; rw [K01_o (by decide)]
    have e2 : K01 65 = K0 65 := K01_o (by decide)
    funext k i
    unfold liv
    split <;> first | rfl | rw [e1] | rw [e2]
  obtain ⟨h1, h2, h3, h4, h5⟩ := h
  unfold KR RB
  rw [el]
  refine ⟨fun k i hl => ?_, h2, h3, h4, fun f j hf hl => ?_, fun f j hf hl => ?_⟩
  · rw [h1 k i hl]
    have z65 : K0 65 i = 0 := by unfold K0; rw [if_neg (by decide), if_neg (by decide), if_neg (by decide)]
    congr 1
    have q : ∀ f, f ≠ 60 → K0 f = K01 f := fun f hf => (K01_o hf).symm
    unfold liv at hl
    split at hl
    · exact absurd (Nat.le_trans hl.1 hl.2) (by decide)
    · exact absurd (Nat.le_trans hl.1 hl.2) (by decide)
    · exact absurd (Nat.le_trans hl.1 hl.2) (by decide)
    · exact absurd (Nat.le_trans hl.1.1 hl.1.2) (by decide)
    · exact absurd (Nat.le_trans hl.1.1 hl.1.2) (by decide)
    · exact absurd (Nat.le_trans hl.1 hl.2) (by decide)
    · exact absurd (Nat.le_trans hl.1 hl.2) (by decide)
    · have e60 : K0 60 i = K01 60 i := by unfold K01; rw [if_neg (fun z => by have := hl.2; omega)]
      show (.inr (2, [.inl (K0 60 i), .inr (.inr (some (A 9 i))), .inl (K0 61 i), .inl (K0 62 i)]) : AC) = .inr (2, [.inl (K01 60 i), .inr (.inr (some (A 9 i))), .inl (K01 61 i), .inl (K01 62 i)])
      rw [e60, q 61 (by decide), q 62 (by decide)]
    · show (.inr (0, [.inl (K0 63 i), .inr (.inr (some (if K0 65 i = 0 then Y.2.2 0 else A 10 i))), .inl (K0 64 i)]) : AC) = .inr (0, [.inl (K01 63 i), .inr (.inr (some (if K01 65 i = 0 then Y.2.2 0 else A 10 i))), .inl (K01 64 i)])
      rw [q 63 (by decide), q 65 (by decide), q 64 (by decide)]
    · exact absurd z65 hl.2
    · rename_i n1 n2 n3 n4 n5 n6 n7 n8 n9 n10
      obtain ⟨hk, rfl⟩ := hl
      replace hk : k ≤ 20 := hk
      have hk2 : k = 0 ∨ k = 11 ∨ k = 12 ∨ k = 13 ∨ k = 14 ∨ k = 15 ∨ k = 16 ∨ k = 17 ∨ k = 18 ∨ k = 19 ∨ k = 20 := by
        have m1 : k ≠ 1 := n1
        have m2 : k ≠ 2 := n2
        have m3 : k ≠ 3 := n3
        have m4 : k ≠ 4 := n4
        have m5 : k ≠ 5 := n5
        have m6 : k ≠ 6 := n6
        have m7 : k ≠ 7 := n7
        have m8 : k ≠ 8 := n8
        have m9 : k ≠ 9 := n9
        have m10 : k ≠ 10 := n10
        clear n1 n2 n3 n4 n5 n6 n7 n8 n9 n10
        omega
      rcases hk2 with rfl | rfl | rfl | rfl | rfl | rfl | rfl | rfl | rfl | rfl | rfl
      · show (.inr (8, mnL A K0) : AC) = .inr (8, mnL A K01)
        unfold mnL
        rw [q 0 (by decide), q 1 (by decide), q 2 (by decide), q 3 (by decide), q 4 (by decide)]
      · show (.inr (5, [.inr (.inr (some (A 12 0))), .inr (.inr (some (A 13 0))), .inr (.inr (some (A 14 0))), .inl (K0 70 0)]) : AC) = .inr (5, [.inr (.inr (some (A 12 0))), .inr (.inr (some (A 13 0))), .inr (.inr (some (A 14 0))), .inl (K01 70 0)])
        rw [q 70 (by decide)]
      · show (.inl (0, 64, .inl (K0 71)) : AC) = .inl (0, 64, .inl (K01 71))
        rw [q 71 (by decide)]
      · show (.inl (0, 64, .inl (K0 72)) : AC) = .inl (0, 64, .inl (K01 72))
        rw [q 72 (by decide)]
      · show (.inl (0, 64, .inl (K0 73)) : AC) = .inl (0, 64, .inl (K01 73))
        rw [q 73 (by decide)]
      · rfl
      · rfl
      · show (.inr (4, [.inr (.inr (some (A 18 0))), .inl (K0 80 0)]) : AC) = .inr (4, [.inr (.inr (some (A 18 0))), .inl (K01 80 0)])
        rw [q 80 (by decide)]
      · show (.inl (0, nN K0 81 0, .inl (K0 82)) : AC) = .inl (0, nN K01 81 0, .inl (K01 82))
        rw [nN_e (q 81 (by decide)), q 82 (by decide)]
      · show oar 5 200 (fun j => dec A 1 (K0 5 j)) = oar 5 200 (fun j => dec A 1 (K01 5 j))
        rw [q 5 (by decide)]
      · rfl
  · rw [nN_e (K01_o (fun z => by subst z; cases hf))]; exact h5.1 f j hf hl
  · rw [nN_e (K01_o (fun z => by subst z; cases hf))]; exact h5.2 f j hf hl
theorem PhK_01 : PhK K01 0 = PhK K0 0 := by
  unfold PhK
  rw [PhL_e (K := K0) (K' := K01) (fun f j h => by rw [K01_o (fun e => by subst e; unfold isLs at h; omega)]), nN_e (K01_o (by decide)), nN_e (K01_o (by decide))]
end INIS
