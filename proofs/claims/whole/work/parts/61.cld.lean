/-! the class: the rules that make failures -/
section CLD
variable {l : Launch} {Y : YT}
theorem KR.fresh {G : GH} {A : AS} {n F : Nat} {K : MS} {L : KL} (h : KR Y G A n F K L) {q : Nat} (hq : G q = none) (c : AC) : KR Y (va_up G q (some c)) A n F K L := ⟨fun k i hl => (up_ne (ne_none (h.1 k i hl) hq)).trans (h.1 k i hl), h.2⟩
/-- stage i fails with a new failure, which lies at qf, its suppressed ones g at qs -/
theorem SP.fl {G : GH} {A : AS} {n F : Nat} {K : MS} {L : KL} (hR : KR Y G A n F K L) {i : Nat} (hi : 1 ≤ i ∧ i ≤ n) (hF : F + 1 ≤ 2000) {qs qf ns : Nat} {kd ca : Int32} {sup : Nat → Int32} {g : Nat → Option Nat} (hs : G qs = none) (hf : G qf = none) (hne : qs ≠ qf) (hca : ca.toNatClampNeg ≤ F) (hsup : ∀ j, (sup j).toNatClampNeg ≤ F) (hns : ns ≤ 100000) (hg : ∀ j, g j = dec A 6 (sup j)) : ∃ w σ ρ, va_up (va_up G qs (some (oar 4 ns g))) qf (some (fC kd (K 10 i) (dec A 6 ca) (some qs) (nI 0) (nI 0) (nI 0) (nI 0) none)) (A 1 i) = some (stC w σ ρ) ∧ SP Y (va_up (va_up (va_up G qs (some (oar 4 ns g))) qf (some (fC kd (K 10 i) (dec A 6 ca) (some qs) (nI 0) (nI 0) (nI 0) (nI 0) none))) (A 1 i) (some (stC w (upd σ 6 (nI 6)) (va_up ρ 8 (some qf))))) A n F K L i (rsF kd ca ns sup) := by
  have hn := hR.2.2.1
  have R1 := hR.newF (kd := kd) (at' := K 10 i) (ca := ca) hF hs hf hne hca hsup hns
  rw [show oar 4 ns (fun j => dec A 6 (sup j)) = oar 4 ns g from oar_cg (fun j => (hg j).symm)] at R1
  have eA : upA (upA A 7 (F + 1) qs) 6 (F + 1) qf 1 i = A 1 i := by rw [upA_n (by omega), upA_n (by omega)]
  have hst := R1.st hi
  rw [eA] at hst
  refine ⟨_, _, _, hst, upA (upA A 7 (F + 1) qs) 6 (F + 1) qf, ?_, fun k i t => by rw [upA_n (fun e => t ⟨Or.inl e.1, e.2⟩), upA_n (fun e => t ⟨Or.inr e.1, e.2⟩)]⟩
  have R2 := R1.fail hi (nI (F + 1)) (by rw [nI_clamp (by omega)]; exact Nat.le_refl _)
  rw [eA, show dec (upA (upA A 7 (F + 1) qs) 6 (F + 1) qf) 6 (nI (F + 1)) = some qf by rw [dec_n rfl (by omega) (by omega), upA_s]] at R2
  exact R2
def sumF (K : MS) (i : Nat) : Nat → Nat → Int32 → Int32
  | 0, _, a => a
  | q + 1, j, a => sumF K i q (j + 1) (a + K 17 (iK K i j))
def allR (K : MS) (i : Nat) : Rs := if erlK K i (nI 6) = 0 then (if cntK K i (nI 5) = nN K 12 i then rsV (sumF K i (nN K 12 i) 0 (nI 0)) else rsN) else rsA (erlK K i (nI 6))
set_option maxHeartbeats 1000000 in
theorem k_settleAll (d : Nat) (G : GH) (A : AS) (n F : Nat) (K : MS) (L : KL) (i0 : Nat) (hR : KR Y G A n F K L) (hi : 1 ≤ i0 ∧ i0 ≤ n) (hup : upK K n i0) : Cd l yX5_settleAll cX5_settleAll 7 none (d + 2) 0 0 Y [.inr (.inr (some (A 1 i0)))] G (fun r G' => r = none ∧ SP Y G' A n F K L i0 (allR K i0)) := by
  refine Ct.of (ini := False) (by decide +kernel) False.elim rfl (Nat.le_of_ble_eq_true rfl) ?_
  intro p e s m args below meth c C X
  have hn := hR.2.2.1
  have h24 := cnt_24 (v := nI 5) hup
  have hN := hup.1.2.1
  refine b_X5_settleAll_0.go C ⟨trivial, ?_⟩
  refine k_X5_settleAll_3.go C X (k_earliest d G A n F K L i0 (nI 6) hR hi hup.1) (rest := []) rfl rfl rfl (fun h => absurd rfl h) (lb rfl) (Rq.of (by omega) (by decide) (Nat.le_refl _) (Nat.le_refl _)) ?_
  rintro r G9 ⟨h9, rfl, hle⟩
  replace h9 := h9.symm
  subst h9
  refine b_X5_settleAll_6.go C ⟨(fun h6 => ⟨trivial, ?_⟩), (fun a6 h6 => ⟨trivial, ?_⟩)⟩
  rotate_left
  · have h5 := opS_1 h6
    obtain ⟨u1, u2, u3⟩ := erl_lt hup h5
    rw [opS_s h5]
    refine b_X5_settleAll_11.go C ⟨trivial, ?_⟩
    refine k_X5_settleAll_13.go C X (c_endAs d G (A 1 i0) (A 1 (erlK K i0 (nI 6))) _ _ _ _ _ _ (hR.ne1 hi ⟨u1, u2⟩ (by omega)) (hR.st hi) (hR.st ⟨u1, u2⟩)) (rest := []) rfl rfl rfl (fun _ => ⟨_, _, _, rfl, hR.st (by omega), stC_in _⟩) (lb rfl) (Rq.of (by omega) (by decide) (Nat.le_refl _) (Nat.le_refl _)) ?_
    rintro r G9 ⟨rfl, rfl⟩
    refine b_X5_settleAll_16.go C ⟨trivial, ?_⟩
    exact V_vret C X d_X5_settleAll_78 (Nat.zero_le _) (Nat.zero_le _) ⟨rfl, by rw [allR, if_neg h5]; exact SP.as hR hi ⟨u1, u2⟩⟩
  have h5 := opS_0 h6
  refine b_X5_settleAll_19.go C ⟨trivial, ?_⟩
  refine k_X5_settleAll_21.go C X (k_countOf d G A n F K L i0 (nI 5) hR hi hup.1) (rest := []) rfl rfl rfl (fun h => absurd rfl h) (lb rfl) (Rq.of (by omega) (by decide) (Nat.le_refl _) (Nat.le_refl _)) ?_
  rintro r G9 ⟨h9, rfl⟩
  replace h9 := h9.symm
  subst h9
  refine b_X5_settleAll_24.go C ⟨_, _, hR.st (by omega), stC_ci _, nN K 12 i0, Or.inl ⟨5, _, by decide, hR.inp (by omega)⟩, fun h24 => ⟨trivial, ?_⟩, fun h24 => ⟨trivial, ?_⟩⟩
  · have hc : ¬ cntK K i0 (nI 5) = nN K 12 i0 := fun q9 => absurd (congrArg nI q9) h24
    exact V_vret C X d_X5_settleAll_78 (Nat.zero_le _) (Nat.zero_le _) ⟨rfl, by rw [allR, if_pos h5, if_neg hc]; exact SP.no hR i0⟩
  have hc : cntK K i0 (nI 5) = nN K 12 i0 := (nI_eq (by omega) (by omega)).mp h24
  refine b_X5_settleAll_32.go C ⟨_, _, hR.st (by omega), stC_ci _, nN K 12 i0, Or.inl ⟨5, _, by decide, hR.inp (by omega)⟩, trivial, ?_⟩
  refine (show ∀ (q j : Nat) (a : Int32) (o : Option AV), j + q = nN K 12 i0 → sumF K i0 (nN K 12 i0) 0 (nI 0) = sumF K i0 q j a → V p l e (RM (d + 2) 0 0) s m args below meth c Y (GA G s.heap.size) (QM below args s (RM (d + 2) 0 0) Y G (fun r G' => r = none ∧ SP Y G' A n F K L i0 (allR K i0))) 46 G 0 0 [some (.inr (.inr (some (A 1 i0)))), some (.inr (.inr (opS A (erlK K i0 (nI 6))))), some (.inl a), some (.inr (.inr (some (A 2 i0)))), some (.inl (nI (nN K 12 i0))), some (.inl (nI j)), o] [] from ?_) (nN K 12 i0) 0 (nI 0) none (by omega) rfl
  intro q
  induction q with
  | zero =>
    intro j a o hj hs
    refine b_X5_settleAll_46.go C ⟨fun h46 => ⟨trivial, ?_⟩, fun h => absurd (nI_le (by omega) (by omega)) h⟩
    refine b_X5_settleAll_73.go C ⟨trivial, ?_⟩
    refine k_X5_settleAll_75.go C X (c_gain (d + 1) G (A 1 i0) _ _ _ _ (hR.st hi)) (rest := []) rfl rfl rfl (fun _ => ⟨_, _, _, rfl, hR.st (by omega), stC_in _⟩) (lb rfl) (Rq.of (by omega) (by decide) (Nat.le_refl _) (Nat.le_refl _)) ?_
    rintro r G9 ⟨rfl, rfl⟩
    exact V_vret C X d_X5_settleAll_78 (Nat.zero_le _) (Nat.zero_le _) ⟨rfl, by rw [allR, if_pos h5, if_pos hc, hs, sumF]; exact SP.gn hR hi _⟩
  | succ q ih =>
    intro j a o hj hs
    obtain ⟨e1, e2, e3⟩ := hup.1.2.2 j (by omega)
    refine b_X5_settleAll_46.go C ⟨fun h => absurd (show nN K 12 i0 ≤ j from (nI_leI (by omega) (by omega)).mp h) (by omega), fun h46 => ⟨trivial, ?_⟩⟩
    refine b_X5_settleAll_53.go C ⟨_, _, hR.inp (by omega), j, rfl, by show j < nN K 12 i0; omega, by omega, _, dec_n (e1) (by omega) (by omega), _, _, hR.st (by omega), stC_ci _, _, rfl, _, nI_1 _, trivial, ?_⟩
    exact ih (j + 1) _ _ (by omega) (by rw [hs, sumF]; rfl)
def thenR (K : MS) (i : Nat) : Rs := if nI 5 ≤ K 16 (iK K i 0) then (if K 16 (iK K i 0) = nI 5 then (if K 13 i = nI 4 ∧ K 14 i = 0 then rsF (nI 6) 0 0 (fun _ => 0) else rsV (chgV (nN K 13 i) (K 17 (iK K i 0)) (K 14 i))) else rsA (iK K i 0)) else rsN
set_option maxHeartbeats 1000000 in
theorem k_settleThen (d : Nat) (G : GH) (A : AS) (n F : Nat) (K : MS) (L : KL) (i0 kd : Nat) (hR : KR Y G A n F K L) (hi : 1 ≤ i0 ∧ i0 ≤ n) (hup : upK K n i0) (hk : K 13 i0 = nI kd) (hk2 : kd ≤ 4) (hF : F + 1 ≤ 2000) : Cd l yX5_settleThen cX5_settleThen 2 none (d + 3) ((rsC (thenR K i0))) ((rsC (thenR K i0))) Y [.inr (.inr (some (A 1 i0)))] G (fun r G' => r = none ∧ SP Y G' A n F K L i0 (thenR K i0)) := by
  refine Ct.of (ini := False) (by decide +kernel) False.elim rfl (Nat.le_of_ble_eq_true rfl) ?_
  intro p e s m args below meth c C X
  have hn := hR.2.2.1
  have ek : nN K 13 i0 = kd := nN_of hk (by omega)
  have hk1 := hup.2.1
  obtain ⟨-, f2, f3⟩ := hup.1.2.2 0 (by omega)
  have f4 := hup.2.2 0 (by omega)
  refine b_X5_settleThen_0.go C ⟨trivial, ?_⟩
  refine k_X5_settleThen_1.go C X (k_firstInput (d + 2) G A n F K L i0 hR hi hup.1 hk1) (rest := []) rfl rfl rfl (fun _ => ⟨_, _, _, rfl, hR.st (by omega), stC_in _⟩) (lb rfl) (Rq.of (by omega) (by decide) (by show _ ≤ rsC (thenR K i0); omega) (by show _ ≤ rsC (thenR K i0); omega)) ?_
  rintro r G9 ⟨h9, rfl⟩
  replace h9 := h9.symm
  subst h9
  refine b_X5_settleThen_4.go C ⟨trivial, ?_⟩
  refine k_X5_settleThen_6.go C X (c_hasEnded (d + 2) G (A 1 (iK K i0 0)) _ _ _ (hR.st ⟨f2, f3⟩)) (rest := []) rfl rfl rfl (fun _ => ⟨_, _, _, rfl, hR.st (by omega), stC_in _⟩) (lb rfl) (Rq.of (by omega) (by decide) (by show _ ≤ rsC (thenR K i0); omega) (by show _ ≤ rsC (thenR K i0); omega)) ?_
  rintro r G9 ⟨h9, rfl⟩
  replace h9 := h9.symm
  subst h9
  refine b_X5_settleThen_9.go C ⟨fun h9 => ⟨trivial, ?_⟩, fun h9 => ⟨trivial, ?_⟩⟩
  rotate_left
  · have h1 : ¬ nI 5 ≤ K 16 (iK K i0 0) := wi_0 h9
    exact V_vret C X d_X5_settleThen_12 (by show _ ≤ ((rsC (thenR K i0))); omega) (by show _ ≤ ((rsC (thenR K i0))); omega) ⟨rfl, by rw [thenR, if_neg h1]; exact SP.no hR i0⟩
  have h1 := wi_1 h9
  have h1 : nI 5 ≤ K 16 (iK K i0 0) := h1
  refine b_X5_settleThen_13.go C ⟨_, _, hR.st (by omega), stC_ci _, fun h13 => ⟨trivial, ?_⟩, fun h13 => ⟨trivial, ?_⟩⟩
  rotate_left
  · have h13 : ¬ K 16 (iK K i0 0) = nI 5 := h13
    refine b_X5_settleThen_21.go C ⟨trivial, ?_⟩
    refine k_X5_settleThen_23.go C X (c_endAs d G (A 1 i0) (A 1 (iK K i0 0)) _ _ _ _ _ _ (hR.ne1 hi ⟨f2, f3⟩ (by omega)) (hR.st hi) (hR.st ⟨f2, f3⟩)) (rest := []) rfl rfl rfl (fun _ => ⟨_, _, _, rfl, hR.st (by omega), stC_in _⟩) (lb rfl) (Rq.of (by omega) (by decide) (by show _ ≤ rsC (thenR K i0); omega) (by show _ ≤ rsC (thenR K i0); omega)) ?_
    rintro r G9 ⟨rfl, rfl⟩
    refine b_X5_settleThen_26.go C ⟨trivial, ?_⟩
    exact V_vret C X d_X5_settleThen_83 (by show _ ≤ ((rsC (thenR K i0))); omega) (by show _ ≤ ((rsC (thenR K i0))); omega) ⟨rfl, by rw [thenR, if_pos h1, if_neg h13]; exact SP.as hR hi ⟨f2, f3⟩⟩
  have h13 : K 16 (iK K i0 0) = nI 5 := h13
  have gn : ¬ (K 13 i0 = nI 4 ∧ K 14 i0 = 0) → V p l e (RM (d + 3) (((rsC (thenR K i0)))) (((rsC (thenR K i0))))) s m args below meth c Y (GA G s.heap.size) (QM below args s (RM (d + 3) (((rsC (thenR K i0)))) (((rsC (thenR K i0))))) Y G (fun r G' => r = none ∧ SP Y G' A n F K L i0 (thenR K i0))) 64 G 0 0 [some (.inr (.inr (some (A 1 i0)))), some (.inr (.inr (some (A 1 (iK K i0 0)))))] [] := by
    intro hb
    refine b_X5_settleThen_64.go C ⟨_, _, hR.st (by omega), stC_ci _, _, _, hR.st (by omega), stC_ci _, _, _, hR.st (by omega), stC_ci _, trivial, ?_⟩
    rw [show sgK K i0 3 = nI kd from hk]
    refine k_X5_settleThen_77.go C X (k_changed d G A n F K L (K 17 (iK K i0 0)) (K 14 i0) kd hk2) (rest := [.inr (.inr (some (A 1 i0)))]) rfl rfl rfl (fun h => absurd rfl h) (lb rfl) (Rq.of (by omega) (by decide) (by show _ ≤ rsC (thenR K i0); omega) (by show _ ≤ rsC (thenR K i0); omega)) ?_
    rintro r G9 ⟨h9, rfl⟩
    replace h9 := h9.symm
    subst h9
    refine k_X5_settleThen_80.go C X (c_gain d G (A 1 i0) _ _ _ _ (hR.st hi)) (rest := []) rfl rfl rfl (fun _ => ⟨_, _, _, rfl, hR.st (by omega), stC_in _⟩) (lb rfl) (Rq.of (by omega) (by decide) (by show _ ≤ rsC (thenR K i0); omega) (by show _ ≤ rsC (thenR K i0); omega)) ?_
    rintro r G9 ⟨rfl, rfl⟩
    exact V_vret C X d_X5_settleThen_83 (by show _ ≤ ((rsC (thenR K i0))); omega) (by show _ ≤ ((rsC (thenR K i0))); omega) ⟨rfl, by rw [thenR, if_pos h1, if_pos h13, if_neg hb, ek]; exact SP.gn hR hi _⟩
  refine b_X5_settleThen_29.go C ⟨_, _, hR.st (by omega), stC_ci _, fun h29 => ⟨trivial, ?_⟩, fun h29 => ⟨trivial, ?_⟩⟩
  · exact gn (fun z => h29 z.1)
  refine b_X5_settleThen_37.go C ⟨_, _, hR.st (by omega), stC_ci _, fun h37 => ⟨trivial, ?_⟩, fun h37 => ⟨trivial, ?_⟩⟩
  · exact gn (fun z => h37 z.2)
  have hc9 : rsC (thenR K i0) = 64 := by rw [thenR, if_pos h1, if_pos h13, if_pos ⟨h29, h37⟩]; rfl
  refine b_X5_settleThen_44.go C ⟨by show _ ≤ ((rsC (thenR K i0))); omega, by show _ ≤ ((rsC (thenR K i0))); omega, (fun q44 hq44 => ⟨_, _, (hR.fresh hq44 _).st (by omega), stC_ci _, trivial, ?_⟩)⟩
  refine k_X5_settleThen_55.go C X (c_Failure2 d _ q44 (nI 6) (K 10 i0) up_eq) (rest := [.inr (.inr (some q44)), .inr (.inr (some (A 1 i0)))]) rfl rfl rfl (fun _ => ⟨_, _, _, rfl, up_eq, by decide⟩) (lb rfl) (Rq.of (by omega) (by decide) (by show _ ≤ rsC (thenR K i0); omega) (by show _ ≤ rsC (thenR K i0); omega)) ?_
  rintro r G9 ⟨rfl, q2, hq2, rfl⟩
  have hne : q44 ≠ q2 := fun z => by rw [← z, up_eq] at hq2; cases hq2
  have hq2' : G q2 = none := (up_ne (Ne.symm hne)).symm.trans hq2
  rw [up_comm hne, bx_uu]
  obtain ⟨w0, σ0, ρ0, hst, hSP⟩ := SP.fl (g := fun _ => none) (kd := nI 6) (ca := 0) (sup := fun _ => 0) (ns := 0) hR hi hF hq2' hq44 (Ne.symm hne) (Nat.zero_le _) (fun _ => Nat.zero_le _) (by omega) (fun _ => (dec_0 rfl).symm)
  refine k_X5_settleThen_58.go C X (c_fail d _ (A 1 i0) w0 σ0 ρ0 (some q44) hst) (rest := []) rfl rfl rfl (fun _ => ⟨_, _, _, rfl, hst, stC_in _⟩) (lb rfl) (Rq.of (by omega) (by decide) (by show _ ≤ rsC (thenR K i0); omega) (by show _ ≤ rsC (thenR K i0); omega)) ?_
  rintro r G9 ⟨rfl, rfl⟩
  refine b_X5_settleThen_61.go C ⟨trivial, ?_⟩
  exact V_vret C X d_X5_settleThen_83 (by show _ ≤ ((rsC (thenR K i0))); omega) (by show _ ≤ ((rsC (thenR K i0))); omega) ⟨rfl, by rw [thenR, if_pos h1, if_pos h13, if_pos ⟨h29, h37⟩]; exact hSP⟩
end CLD
