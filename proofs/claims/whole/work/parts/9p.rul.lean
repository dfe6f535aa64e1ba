/-! the rules, on both sides (any() apart) -/
section RULS
variable {n k F w x y : Nat} {K K1 K' : MS} {L L' : KL} {M M1 M' : MS} {t h : Nat}
theorem stt_5 {so cm wh : Nat} (h : 9 ≤ so → wh ≤ 4) : 5 ≤ stt so cm wh ↔ cm ≠ 0 := by
  unfold stt
  split
  · split
    · omega
    · have := h (by omega); omega
  · omega
theorem Rel.k16 (hR : Rel n k F K L M) (hI : Inv n k w x y M) {s : Nat} (h1 : 1 ≤ s) (h2 : s ≤ n) : (nI 5 ≤ K 16 s ↔ nN M 8 s ≠ 0) ∧ (nN M 8 s ≠ 0 → nN K 16 s = nN M 8 s + 4) ∧ (∀ v, 1 ≤ v → v ≤ 3 → (K 16 s = nI (v + 4) ↔ nN M 8 s = v)) := by
  have d := (hR.d s h1 h2).1
  have dy := hI.d s h1 h2
  have s5 := stt_5 (so := nN M 2 s) (cm := nN M 8 s) (wh := nN M 19 s) (fun q => (dy.2.2.2.2 q).1)
  refine ⟨by rw [hR.nt.le rfl (by decide), d, s5], fun q => by rw [d]; unfold stt; rw [if_neg q], fun v v1 v2 => ?_⟩
  rw [hR.nt.eq rfl (by omega), d]
  constructor
  · intro q
    have := s5.mp (by omega)
    unfold stt at q; rw [if_neg this] at q; omega
  · intro q; unfold stt; rw [if_neg (by omega)]; omega
theorem Rel.k16_6 (hR : Rel n k F K L M) (hI : Inv n k w x y M) {s : Nat} (h1 : 1 ≤ s) (h2 : s ≤ n) : nI 6 ≤ K 16 s ↔ nN M 8 s ≠ 0 ∧ nN M 8 s ≠ 1 := by
  obtain ⟨a, b, -⟩ := hR.k16 hI h1 h2
  rw [hR.nt.le rfl (by decide)] at a ⊢
  constructor
  · intro q
    have h0 := a.mp (by omega)
    have := b h0
    exact ⟨h0, by omega⟩
  · rintro ⟨q1, q2⟩
    have := b q1
    omega
theorem Rel.k18z (hR : Rel n k F K L M) {s : Nat} (h1 : 1 ≤ s) (h2 : s ≤ n) : (K 18 s = 0 ↔ nN M 8 s ≠ 2) ∧ (nN M 8 s = 2 → nN K 18 s = nN M 12 s + 1) := by
  have d := (hR.d s h1 h2).2.2.1
  rw [hR.nt.z rfl, d]
  constructor
  · split <;> omega
  · intro q; rw [if_pos q]
theorem erl_fst (hR : Rel n k F K L M) (hI : Inv n k w x y M) (h1t : 1 ≤ t) (ht : t ≤ n) {v : Int32} {wh : Bool} (hv : ∀ s, 1 ≤ s → s ≤ n → (v ≤ K 16 s ↔ fstB M wh s = true)) : ∀ (q j e : Nat), j + q ≤ nN M 4 t → (e = 0 ∨ (1 ≤ e ∧ e ≤ n)) → erlF K t v q j e = fstF M t wh q j e
  | 0, _, _, _, _ => rfl
  | q + 1, j, e, hb, he => by
    have hi := iK_iN hR h1t ht (j := j) (by omega)
    have hm : iN M t j ∈ inL M t := inL_mem.mpr ⟨j, by omega, rfl⟩
    have b := inL_b hI.s h1t ht hm
    have c : (v ≤ K 16 (iN M t j) ∧ (e = 0 ∨ K 20 (iN M t j) < K 20 e)) ↔ (fstB M wh (iN M t j) = true ∧ (e = 0 ∨ M 10 (iN M t j) < M 10 e)) := by
      rw [hv _ b.1 (by omega)]
      rcases he with he | he
      · constructor
        · rintro ⟨z1, _⟩; exact ⟨z1, Or.inl he⟩
        · rintro ⟨z1, _⟩; exact ⟨z1, Or.inl he⟩
      · rw [hR.nt.lt2 rfl rfl, hI.nt.lt2 rfl rfl, (hR.d _ b.1 (by omega)).2.2.2.2.1, (hR.d e he.1 he.2).2.2.2.2.1]
    rw [erlF, fstF, hi]
    by_cases hc : fstB M wh (iN M t j) = true ∧ (e = 0 ∨ M 10 (iN M t j) < M 10 e)
    · rw [if_pos hc, if_pos (c.mpr hc)]; exact erl_fst hR hI h1t ht hv q (j + 1) _ (by omega) (Or.inr ⟨b.1, by omega⟩)
    · rw [if_neg hc, if_neg (fun z => hc (c.mp z))]; exact erl_fst hR hI h1t ht hv q (j + 1) e (by omega) he
theorem erl5 (hR : Rel n k F K L M) (hI : Inv n k w x y M) (h1t : 1 ≤ t) (ht : t ≤ n) : erlK K t (nI 5) = fstN M t true := by
  unfold erlK fstN
  rw [(hR.s t h1t ht).2.2.1]
  exact erl_fst hR hI h1t ht (fun s h1 h2 => by rw [(hR.k16 hI h1 h2).1, fstB_t hI.nt]) _ 0 0 (by omega) (Or.inl rfl)
theorem erl6 (hR : Rel n k F K L M) (hI : Inv n k w x y M) (h1t : 1 ≤ t) (ht : t ≤ n) : erlK K t (nI 6) = fstN M t false := by
  unfold erlK fstN
  rw [(hR.s t h1t ht).2.2.1]
  exact erl_fst hR hI h1t ht (fun s h1 h2 => by rw [hR.k16_6 hI h1 h2, fstB_f hI.nt]) _ 0 0 (by omega) (Or.inl rfl)
/-- how many inputs stand so -/
def cB (M : MS) (h s : Nat) : Bool := decide (nN M 8 s = h)
theorem cnt_F (hR : Rel n k F K L M) (hI : Inv n k w x y M) (h1t : 1 ≤ t) (ht : t ≤ n) (hh : 1 ≤ h ∧ h ≤ 3) : ∀ (q j a : Nat), j + q ≤ nN M 4 t → cntF K t (nI (h + 4)) q j a = a + (((List.range' j q).map (iN M t)).filter (cB M h)).length
  | 0, _, _, _ => rfl
  | q + 1, j, a, hb => by
    have hi := iK_iN hR h1t ht (j := j) (by omega)
    have hm : iN M t j ∈ inL M t := inL_mem.mpr ⟨j, by omega, rfl⟩
    have b := inL_b hI.s h1t ht hm
    have c := (hR.k16 hI b.1 (show iN M t j ≤ n by omega)).2.2 h hh.1 hh.2
    rw [cntF, hi, cnt_F hR hI h1t ht hh q (j + 1) _ (by omega), List.range'_succ, List.map_cons, List.filter_cons]
    by_cases hc : nN M 8 (iN M t j) = h
    · rw [if_pos (c.mpr hc), if_pos (show cB M h (iN M t j) = true from decide_eq_true hc), List.length_cons]; omega
    · rw [if_neg (fun z => hc (c.mp z)), if_neg (show ¬ cB M h (iN M t j) = true from fun z => hc (of_decide_eq_true z))]
theorem cnt_L (hR : Rel n k F K L M) (hI : Inv n k w x y M) (h1t : 1 ≤ t) (ht : t ≤ n) (hh : 1 ≤ h ∧ h ≤ 3) : cntK K t (nI (h + 4)) = ((inL M t).filter (cB M h)).length := by
  unfold cntK
  rw [(hR.s t h1t ht).2.2.1, cnt_F hR hI h1t ht hh _ _ _ (by omega), Nat.zero_add, inL, List.range_eq_range']
  rfl
theorem cnt_all (hR : Rel n k F K L M) (hI : Inv n k w x y M) (h1t : 1 ≤ t) (ht : t ≤ n) : cntK K t (nI 5) = nN K 12 t ↔ ∀ s ∈ inL M t, nN M 8 s = 1 := by
  rw [show nI 5 = nI (1 + 4) from rfl, cnt_L hR hI h1t ht ⟨by decide, by decide⟩, (hR.s t h1t ht).2.2.1, ← inL_len (M := M) (t := t), List.length_filter_eq_length_iff]
  exact ⟨fun q s hs => of_decide_eq_true (q s hs), fun q s hs => decide_eq_true (q s hs)⟩
theorem fst_0 {wh : Bool} (hI : Inv n k w x y M) (h1t : 1 ≤ t) (ht : t ≤ n) : fstN M t wh = 0 ↔ ∀ s ∈ inL M t, ¬ fstB M wh s = true := by
  have e : kI M t = nN M 4 t := rfl
  constructor
  · intro q s hs hb
    obtain ⟨j, h1, h2⟩ := inL_mem.mp hs
    refine fst_nz (M := M) (t := t) (wh := wh) (fun s h => (inL_b hI.s h1t ht h).1) (kI M t) 0 0 (by omega) (Or.inr ⟨j, Nat.zero_le _, by omega, ?_⟩) q
    have : iN M t j = s := h2
    rw [this]; exact hb
  · intro q
    rcases fst_in (M := M) (t := t) (wh := wh) (kI M t) 0 0 (by omega) with h2 | h2
    · exact h2
    · exact absurd h2.2 (q _ h2.1)
theorem fst_m {wh : Bool} (h : fstN M t wh ≠ 0) : fstN M t wh ∈ inL M t ∧ fstB M wh (fstN M t wh) = true := by
  rcases fst_in (M := M) (t := t) (wh := wh) (kI M t) 0 0 (by show 0 + nN M 4 t ≤ nN M 4 t; omega) with h2 | h2
  · exact absurd h2 h
  · exact h2
theorem rs_as (hI : Inv n k w x y M) (h1t : 1 ≤ t) (ht : t ≤ n) {s : Nat} (hs : s ∈ inL M t) (he : nN M 8 s ≠ 0) : someB M t = true ∧ RsM n F M (asM M t s) t (rsA s) := by
  have b := inL_b hI.s h1t ht hs
  exact ⟨(some_iff hI.nt).mpr ⟨s, hs, he⟩, Or.inl ⟨s, rfl, ⟨b.1, by omega⟩, he, rfl⟩⟩
theorem allF_e (hR : Rel n k F K L M) (hI : Inv n k w x y M) (h1t : 1 ≤ t) (ht : t ≤ n) : ∀ (q j : Nat) (b : Bool) (sm : Int32), j + q ≤ nN M 4 t → ((allF M t q j b sm).1 = true ↔ b = true ∧ ∀ i, j ≤ i → i < j + q → nN M 8 (iN M t i) = 1) ∧ (allF M t q j b sm).2 = sumF K t q j sm
  | 0, j, b, sm, _ => ⟨⟨fun z => ⟨z, fun i h1 h2 => by omega⟩, fun z => z.1⟩, rfl⟩
  | q + 1, j, b, sm, hb => by
    have hi := iK_iN hR h1t ht (j := j) (by omega)
    have hm : iN M t j ∈ inL M t := inL_mem.mpr ⟨j, by omega, rfl⟩
    have bb := inL_b hI.s h1t ht hm
    obtain ⟨r1, r2⟩ := allF_e hR hI h1t ht q (j + 1) (b && decide (M 8 (iN M t j) = nI 1)) (sm + M 11 (iN M t j)) (by omega)
    rw [allF, sumF, hi, (hR.d _ bb.1 (by omega)).2.1]
    refine ⟨?_, r2⟩
    rw [r1, Bool.and_eq_true, decide_eq_true_iff, hI.nt.eq rfl (by decide)]
    constructor
    · rintro ⟨⟨z1, z2⟩, z3⟩
      refine ⟨z1, fun i h1 h2 => ?_⟩
      by_cases hij : i = j
      · subst hij; exact z2
      · exact z3 i (by omega) (by omega)
    · rintro ⟨z1, z2⟩
      exact ⟨⟨z1, z2 j (Nat.le_refl _) (by omega)⟩, fun i h1 h2 => z2 i (by omega) (by omega)⟩
theorem le_eq32 {a b : Int32} (h1 : a ≤ b) (h2 : ¬ a < b) : a = b := by
  rw [Int32.le_iff_toInt_le] at h1
  rw [Int32.lt_iff_toInt_lt] at h2
  exact Int32.toInt_inj.mp (by omega)
theorem lt_le32 {a b : Int32} (h1 : a < b) : a ≤ b := by
  rw [Int32.lt_iff_toInt_lt] at h1
  rw [Int32.le_iff_toInt_le]; omega
theorem sup0 : (fun _ => 0 : Nat → Int32) = supL [] := by funext j; unfold supL; rw [if_neg (by simp)]
theorem rul_sim (hR : Rel n k F K L M) (hI : Inv n k w 0 y M) (hy : y ≤ 1) (h1t : 1 ≤ t) (ht : t ≤ n) (ho : nN M 8 t = 0) (h9 : nN M 2 t < 9) (h5 : nN M 2 t ≠ 5) : (rulR K t = rsN ∧ (someB M t = true → askedM M t = M)) ∨ (someB M t = true ∧ RsM n F M (askedM M t) t (rulR K t)) := by
  have hs := hI.s.2 t h1t ht
  have rs := hR.s t h1t ht
  have bd := hI.bd (by decide) hy
  have hn := hI.a.1
  have hF0 := hR.f.1
  have e11 : nN K 11 t = fm (nN M 2 t) := rs.2.1
  have e12 : nN K 12 t = nN M 4 t := rs.2.2.1
  have i0 : 1 ≤ nN M 4 t → iK K t 0 = iN M t 0 ∧ iN M t 0 ∈ inL M t := fun q => ⟨iK_iN hR h1t ht (by omega), inL_mem.mpr ⟨0, by omega, rfl⟩⟩
  have iL : 1 ≤ nN M 4 t → iK K t (nN K 12 t - 1) = iN M t (nN M 4 t - 1) ∧ iN M t (nN M 4 t - 1) ∈ inL M t := fun q => ⟨by rw [e12]; exact iK_iN hR h1t ht (by omega), inL_mem.mpr ⟨nN M 4 t - 1, by omega, rfl⟩⟩
  have bb : ∀ s ∈ inL M t, 1 ≤ s ∧ s ≤ n := fun s q => by have := inL_b hI.s h1t ht q; omega
  unfold rulR askedM
  rw [e11]
  have h13 : nN M 2 t = 0 ∨ nN M 2 t = 1 ∨ nN M 2 t = 2 ∨ nN M 2 t = 3 ∨ nN M 2 t = 4 ∨ nN M 2 t = 6 ∨ nN M 2 t = 7 ∨ nN M 2 t = 8 := by omega
  rcases h13 with h | h | h | h | h | h | h | h
  · rw [h]; exact Or.inl ⟨rfl, fun _ => rfl⟩
  · -- then
    rw [h] at hs ⊢
    have h4 : nN M 4 t = 1 := hs.1.2.2.2.1 (Or.inl rfl)
    obtain ⟨q1, q2⟩ := i0 (by omega)
    have b0 := bb _ q2
    have k16 := hR.k16 hI b0.1 b0.2
    show (thenR K t = rsN ∧ (someB M t = true → thenM M t (iN M t 0) = M)) ∨ (someB M t = true ∧ RsM n F M (thenM M t (iN M t 0)) t (thenR K t))
    unfold thenR
    rw [q1]
    by_cases he : nN M 8 (iN M t 0) = 0
    · rw [if_neg (fun z => k16.1.mp z he)]
      refine Or.inl ⟨rfl, fun z => ?_⟩
      exfalso
      obtain ⟨s, s1, s2⟩ := (some_iff hI.nt).mp z
      obtain ⟨j, j1, j2⟩ := inL_mem.mp s1
      have hj : j = 0 := by omega
      subst hj
      exact s2 (by rw [← j2]; exact he)
    · rw [if_pos (k16.1.mpr he)]
      refine Or.inr ?_
      by_cases h1 : nN M 8 (iN M t 0) = 1
      · have z1 : K 16 (iN M t 0) = nI 5 := (k16.2.2 1 (by decide) (by decide)).mpr h1
        have z2 : M 8 (iN M t 0) = nI 1 := (hI.nt.eq rfl (by decide)).mpr h1
        refine ⟨(some_iff hI.nt).mpr ⟨_, q2, he⟩, ?_⟩
        unfold thenM
        rw [if_pos z1, if_neg (fun z => z z2)]
        have e14 : K 14 t = M 6 t := by rw [rs.2.2.2.2.2.1, h]; rfl
        have e17 : K 17 (iN M t 0) = M 11 (iN M t 0) := (hR.d _ b0.1 b0.2).2.1
        have e13 : nN K 13 t = nN M 5 t := rs.2.2.2.2.1
        have hkd := hs.2.2.2.1.2 (Or.inl (by decide))
        have hK13 : K 13 t = nI 4 ↔ nN M 5 t = 4 := by rw [hR.nt.eq rfl (by decide), e13]
        rw [e14, e17, e13]
        by_cases hz : nN M 5 t = 4 ∧ M 6 t = 0
        · rw [if_pos (show K 13 t = nI 4 ∧ M 6 t = 0 from ⟨hK13.mpr hz.1, hz.2⟩), hz.1]
          show RsM n F M (if M 6 t = 0 then wfM (newFM M (nN M 38 0) (nI 6) (nI t) (-1)) t (nI (nN M 38 0)) else _) t _
          rw [if_pos hz.2, hF0]
          refine Or.inr (Or.inr (Or.inr ⟨_, 6, -1, [], ?_, rfl, ?_, by decide, by decide, Or.inl rfl, fun o q => by cases q⟩))
          · have := nf_E (M := M) (kd := 6) (at' := t) (ca := -1) hI.nt (by decide) (by omega) (by omega)
            rw [hF0] at this; exact this
          · rw [sup0]; rfl
        · rw [if_neg (show ¬ (K 13 t = nI 4 ∧ M 6 t = 0) from fun z => hz ⟨hK13.mp z.1, z.2⟩)]
          refine Or.inr (Or.inl ⟨_, rfl, ?_⟩)
          unfold chgV
          have : nN M 5 t = 0 ∨ nN M 5 t = 1 ∨ nN M 5 t = 2 ∨ nN M 5 t = 3 ∨ nN M 5 t = 4 := by omega
          rcases this with q | q | q | q | q
          · rw [q]; rfl
          · rw [q]; rfl
          · rw [q]; rfl
          · rw [q]; rfl
          · have h6 : ¬ M 6 t = 0 := fun z => hz ⟨q, z⟩
            rw [q]
            show (if M 6 t = 0 then _ else wvM M t (qdiv (M 11 (iN M t 0)) (M 6 t))) = wvM M t (if M 6 t = 0 then 0 else fdiv _ _)
            rw [if_neg h6, if_neg h6, fdiv_q _ _ h6]
      · rw [if_neg (fun z => h1 ((k16.2.2 1 (by decide) (by decide)).mp z))]
        unfold thenM
        rw [if_pos (fun z => h1 ((hI.nt.eq rfl (by decide)).mp z))]
        exact rs_as hI h1t ht q2 he
  · -- both
    rw [h] at hs ⊢
    have h4 := hs.1.2.2.2.2.1 (Or.inl rfl)
    obtain ⟨q1, q2⟩ := i0 h4.1
    obtain ⟨q3, q4⟩ := iL h4.1
    have b0 := bb _ q2
    have bL := bb _ q4
    show (bthR K t = rsN ∧ (someB M t = true → bothM M t (iN M t 0) (iN M t (kI M t - 1)) = M)) ∨ (someB M t = true ∧ RsM n F M (bothM M t (iN M t 0) (iN M t (kI M t - 1))) t (bthR K t))
    have ek : kI M t = nN M 4 t := rfl
    unfold bthR bothM
    rw [erl6 hR hI h1t ht, ek, q1, q3]
    by_cases hf : fstN M t false = 0
    · rw [if_pos hf, if_neg (show ¬ ¬ fstN M t false = 0 from fun z => z hf)]
      have nf := (fst_0 hI h1t ht).mp hf
      have a01 : ∀ s ∈ inL M t, nN M 8 s = 0 ∨ nN M 8 s = 1 := fun s hs => by
        have := nf s hs
        rw [fstB_f hI.nt] at this; omega
      have all2 : (∀ s ∈ inL M t, nN M 8 s = 1) ↔ ¬ (M 8 (iN M t 0) = 0 ∨ M 8 (iN M t (nN M 4 t - 1)) = 0) := by
        rw [hI.nt.z rfl, hI.nt.z rfl]
        constructor
        · intro z z2
          rcases z2 with z2 | z2
          · have := z _ q2; omega
          · have := z _ q4; omega
        · intro z s hs
          have hs0 := a01 s hs
          obtain ⟨j, j1, j2⟩ := inL_mem.mp hs
          have : j = 0 ∨ j = nN M 4 t - 1 := by omega
          have e0 : iN M t j = s := j2
          rcases this with rfl | rfl
          · rw [e0] at z; omega
          · rw [e0] at z; omega
      by_cases ha : ∀ s ∈ inL M t, nN M 8 s = 1
      · rw [if_pos ((cnt_all hR hI h1t ht).mpr ha), if_neg (all2.mp ha)]
        refine Or.inr ⟨(some_iff hI.nt).mpr ⟨_, q2, by rw [ha _ q2]; decide⟩, Or.inr (Or.inl ⟨_, rfl, ?_⟩)⟩
        rw [(hR.d _ b0.1 b0.2).2.1, (hR.d _ bL.1 bL.2).2.1, rs.2.2.2.2.1]
        unfold joiV
        have hkd := hs.2.2.2.1.2 (Or.inl (by decide))
        have : nN M 5 t = 0 ∨ nN M 5 t = 1 ∨ nN M 5 t = 2 ∨ nN M 5 t = 3 ∨ nN M 5 t = 4 := by omega
        rcases this with q | q | q | q | q
        · rw [q]; rfl
        · rw [q]; rfl
        · rw [q]
          show wvM M t (if M 11 (iN M t 0) ≤ M 11 (iN M t (nN M 4 t - 1)) then _ else _) = wvM M t (if M 11 (iN M t 0) < M 11 (iN M t (nN M 4 t - 1)) then _ else _)
          by_cases z : M 11 (iN M t 0) < M 11 (iN M t (nN M 4 t - 1))
          · rw [if_pos z, if_pos (lt_le32 z)]
          · by_cases z2 : M 11 (iN M t 0) ≤ M 11 (iN M t (nN M 4 t - 1))
            · rw [if_neg z, if_pos z2, le_eq32 z2 z]
            · rw [if_neg z, if_neg z2]
        · rw [q]
          show wvM M t (if M 11 (iN M t (nN M 4 t - 1)) ≤ M 11 (iN M t 0) then _ else _) = wvM M t (if M 11 (iN M t (nN M 4 t - 1)) < M 11 (iN M t 0) then _ else _)
          by_cases z : M 11 (iN M t (nN M 4 t - 1)) < M 11 (iN M t 0)
          · rw [if_pos z, if_pos (lt_le32 z)]
          · by_cases z2 : M 11 (iN M t (nN M 4 t - 1)) ≤ M 11 (iN M t 0)
            · rw [if_neg z, if_pos z2, le_eq32 z2 z]
            · rw [if_neg z, if_neg z2]
        · rw [q]; rfl
      · rw [if_neg (fun z => ha ((cnt_all hR hI h1t ht).mp z)), if_pos (Classical.byContradiction (fun z => ha (all2.mpr z)))]
        exact Or.inl ⟨rfl, fun _ => rfl⟩
    · rw [if_neg hf, if_pos hf]
      have m := fst_m hf
      exact Or.inr (rs_as hI h1t ht m.1 ((fstB_f hI.nt).mp m.2).1)
  · -- first
    rw [h]
    show (frsR K t = rsN ∧ (someB M t = true → asM M t (fstN M t true) = M)) ∨ (someB M t = true ∧ RsM n F M (asM M t (fstN M t true)) t (frsR K t))
    unfold frsR
    rw [erl5 hR hI h1t ht]
    by_cases hf : fstN M t true = 0
    · rw [if_pos hf]
      refine Or.inl ⟨rfl, fun z => ?_⟩
      obtain ⟨s, s1, s2⟩ := (some_iff hI.nt).mp z
      exact absurd ((fstB_t hI.nt).mpr s2) ((fst_0 hI h1t ht).mp hf s s1)
    · rw [if_neg hf]
      have m := fst_m hf
      exact Or.inr (rs_as hI h1t ht m.1 ((fstB_t hI.nt).mp m.2))
  · -- all
    rw [h] at hs ⊢
    have h4 := hs.1.2.2.2.2.2.2 (Or.inl rfl)
    obtain ⟨q1, q2⟩ := i0 h4
    show (allR K t = rsN ∧ (someB M t = true → allM M t = M)) ∨ (someB M t = true ∧ RsM n F M (allM M t) t (allR K t))
    unfold allR allM
    rw [erl6 hR hI h1t ht]
    have ek : kI M t = nN M 4 t := rfl
    obtain ⟨r1, r2⟩ := allF_e hR hI h1t ht (kI M t) 0 true (nI 0) (by omega)
    have r3 : (allF M t (kI M t) 0 true (nI 0)).1 = true ↔ ∀ s ∈ inL M t, nN M 8 s = 1 := by
      rw [r1]
      constructor
      · rintro ⟨-, z⟩ s hs
        obtain ⟨j, j1, j2⟩ := inL_mem.mp hs
        have e0 : iN M t j = s := j2
        rw [← e0]; exact z j (Nat.zero_le _) (by omega)
      · intro z
        exact ⟨rfl, fun i _ i2 => z _ (inL_mem.mpr ⟨i, by omega, rfl⟩)⟩
    by_cases hf : fstN M t false = 0
    · rw [if_pos hf, if_neg (show ¬ ¬ fstN M t false = 0 from fun z => z hf)]
      by_cases ha : ∀ s ∈ inL M t, nN M 8 s = 1
      · rw [if_pos ((cnt_all hR hI h1t ht).mpr ha), if_pos (r3.mpr ha), r2, e12]
        exact Or.inr ⟨(some_iff hI.nt).mpr ⟨_, q2, by rw [ha _ q2]; decide⟩, Or.inr (Or.inl ⟨_, rfl, rfl⟩)⟩
      · rw [if_neg (fun z => ha ((cnt_all hR hI h1t ht).mp z)), if_neg (fun z => ha (r3.mp z))]
        exact Or.inl ⟨rfl, fun _ => rfl⟩
    · rw [if_neg hf, if_pos hf]
      have m := fst_m hf
      exact Or.inr (rs_as hI h1t ht m.1 ((fstB_f hI.nt).mp m.2).1)
  · -- onFailure
    rw [h] at hs ⊢
    have h4 := hs.1.2.2.2.2.1 (Or.inr (Or.inr rfl))
    obtain ⟨q1, q2⟩ := i0 h4.1
    obtain ⟨q3, q4⟩ := iL h4.1
    have b0 := bb _ q2
    have bL := bb _ q4
    have e7 : nN M 7 t = iN M t (nN M 4 t - 1) := hs.2.2.2.2.1.2.2 (Or.inl rfl)
    have k0 := hR.k16 hI b0.1 b0.2
    have kL := hR.k16 hI bL.1 bL.2
    have z18 := hR.k18z b0.1 b0.2
    show (onfR K t = rsN ∧ (someB M t = true → onfM M t (iN M t 0) (nN M 7 t) = M)) ∨ (someB M t = true ∧ RsM n F M (onfM M t (iN M t 0) (nN M 7 t)) t (onfR K t))
    unfold onfR onfM
    rw [q1, q3, e7]
    by_cases he : nN M 8 (iN M t 0) = 0
    · rw [if_neg (fun z => k0.1.mp z he), if_pos ((hI.nt.z rfl).mpr he)]
      exact Or.inl ⟨rfl, fun _ => rfl⟩
    · rw [if_pos (k0.1.mpr he), if_neg (fun z => he ((hI.nt.z rfl).mp z))]
      have eq : (K 18 (iN M t 0) = 0 ∨ und (nN K 50 (nN K 18 (iN M t 0))) (nN K 13 t) = false) ↔ onfB M t (iN M t 0) = false := by
        unfold onfB
        by_cases h2 : nN M 8 (iN M t 0) = 2
        · have f0 := hI.f12 b0.1 b0.2 h2
          rw [z18.2 h2, (hR.f.2 _ (by rw [← hF0]; exact f0.1)).1, rs.2.2.2.2.1, decide_eq_true ((hI.nt.eq rfl (by decide)).mpr h2), Bool.true_and]
          exact ⟨fun z => z.elim (fun z => absurd h2 (z18.1.mp z)) id, Or.inr⟩
        · rw [decide_eq_false (fun z => h2 ((hI.nt.eq rfl (by decide)).mp z)), Bool.false_and]
          exact ⟨fun _ => rfl, fun _ => Or.inl (z18.1.mpr h2)⟩
      by_cases ht2 : onfB M t (iN M t 0) = false
      · rw [if_pos (eq.mpr ht2), if_pos ht2]
        exact Or.inr (rs_as hI h1t ht q2 he)
      · rw [if_neg (fun z => ht2 (eq.mp z)), if_neg ht2]
        by_cases hl : nN M 8 (iN M t (nN M 4 t - 1)) = 0
        · rw [if_neg (fun z => kL.1.mp z hl), if_pos ((hI.nt.z rfl).mpr hl)]
          exact Or.inl ⟨rfl, fun _ => rfl⟩
        · rw [if_pos (kL.1.mpr hl), if_neg (fun z => hl ((hI.nt.z rfl).mp z))]
          exact Or.inr (rs_as hI h1t ht q4 hl)
  · -- always
    rw [h] at hs ⊢
    have h4 : nN M 4 t = 2 := hs.1.2.2.2.2.2.1 rfl
    obtain ⟨q1, q2⟩ := i0 (by omega)
    obtain ⟨q3, q4⟩ := iL (by omega)
    have b0 := bb _ q2
    have bL := bb _ q4
    have e7 : nN M 7 t = iN M t (nN M 4 t - 1) := hs.2.2.2.2.1.2.2 (Or.inr rfl)
    have k0 := hR.k16 hI b0.1 b0.2
    have kL := hR.k16 hI bL.1 bL.2
    have z0 := hR.k18z b0.1 b0.2
    have zL := hR.k18z bL.1 bL.2
    have c0 := (hI.d _ b0.1 b0.2).1
    have cL := (hI.d _ bL.1 bL.2).1
    show (alwR K t = rsN ∧ (someB M t = true → alwM M t (iN M t 0) (nN M 7 t) = M)) ∨ (someB M t = true ∧ RsM n F M (alwM M t (iN M t 0) (nN M 7 t)) t (alwR K t))
    unfold alwR alwM
    rw [q1, q3, e7]
    by_cases he : nN M 8 (iN M t 0) = 0 ∨ nN M 8 (iN M t (nN M 4 t - 1)) = 0
    · rw [if_neg (show ¬ (nI 5 ≤ K 16 (iN M t 0) ∧ nI 5 ≤ K 16 (iN M t (nN M 4 t - 1))) from fun z => he.elim (k0.1.mp z.1) (kL.1.mp z.2)), if_pos (show M 8 (iN M t 0) = 0 ∨ M 8 (iN M t (nN M 4 t - 1)) = 0 from he.elim (fun z => Or.inl ((hI.nt.z rfl).mpr z)) (fun z => Or.inr ((hI.nt.z rfl).mpr z)))]
      exact Or.inl ⟨rfl, fun _ => rfl⟩
    · have e0 : nN M 8 (iN M t 0) ≠ 0 := fun z => he (Or.inl z)
      have eL : nN M 8 (iN M t (nN M 4 t - 1)) ≠ 0 := fun z => he (Or.inr z)
      rw [if_pos (show nI 5 ≤ K 16 (iN M t 0) ∧ nI 5 ≤ K 16 (iN M t (nN M 4 t - 1)) from ⟨k0.1.mpr e0, kL.1.mpr eL⟩), if_neg (show ¬ (M 8 (iN M t 0) = 0 ∨ M 8 (iN M t (nN M 4 t - 1)) = 0) from fun z => he (z.elim (fun z => Or.inl ((hI.nt.z rfl).mp z)) (fun z => Or.inr ((hI.nt.z rfl).mp z))))]
      refine Or.inr ?_
      have m2 : ∀ s, M 8 s = nI 2 ↔ nN M 8 s = 2 := fun s => hI.nt.eq rfl (by decide)
      have m1 : ∀ s, M 8 s = nI 1 ↔ nN M 8 s = 1 := fun s => hI.nt.eq rfl (by decide)
      by_cases ha : nN M 8 (iN M t 0) = 3 ∨ nN M 8 (iN M t (nN M 4 t - 1)) ≠ 2
      · rw [if_pos (show K 16 (iN M t 0) = nI 7 ∨ K 18 (iN M t (nN M 4 t - 1)) = 0 from ha.elim (fun z => Or.inl ((k0.2.2 3 (by decide) (by decide)).mpr z)) (fun z => Or.inr (zL.1.mpr z))), if_neg (show ¬ (M 8 (iN M t 0) = nI 2 ∧ M 8 (iN M t (nN M 4 t - 1)) = nI 2) from fun z => by rw [m2, m2] at z; omega), if_neg (show ¬ (M 8 (iN M t 0) = nI 1 ∧ M 8 (iN M t (nN M 4 t - 1)) = nI 2) from fun z => by rw [m1, m2] at z; omega)]
        exact rs_as hI h1t ht q2 e0
      · rw [if_neg (show ¬ (K 16 (iN M t 0) = nI 7 ∨ K 18 (iN M t (nN M 4 t - 1)) = 0) from fun z => ha (z.elim (fun z => Or.inl ((k0.2.2 3 (by decide) (by decide)).mp z)) (fun z => Or.inr (zL.1.mp z))))]
        have L2 : nN M 8 (iN M t (nN M 4 t - 1)) = 2 := by omega
        by_cases h2 : nN M 8 (iN M t 0) = 2
        · have f0 := hI.f12 b0.1 b0.2 h2
          have fL := hI.f12 bL.1 bL.2 L2
          rw [if_neg (fun z => z0.1.mp z h2), if_pos (show M 8 (iN M t 0) = nI 2 ∧ M 8 (iN M t (nN M 4 t - 1)) = nI 2 from ⟨(m2 _).mpr h2, (m2 _).mpr L2⟩)]
          have NF := nf_E (M := M) (kd := nN M 33 (nN M 12 (iN M t 0))) (at' := t) (ca := nI (nN M 12 (iN M t 0))) hI.nt (nN_lt _ _ _) (by omega) (by omega)
          have NF2 := sup_E (o := nN M 12 (iN M t (nN M 4 t - 1))) NF (nN_lt _ _ _) (by rw [List.length_nil]; omega)
          rw [List.nil_append, List.length_nil] at NF2
          rw [hI.nt 33 (nN M 12 (iN M t 0)) rfl, f0.2, fL.2]
          refine ⟨(some_iff hI.nt).mpr ⟨_, q2, e0⟩, Or.inr (Or.inr (Or.inr ⟨_, nN M 33 (nN M 12 (iN M t 0)), nI (nN M 12 (iN M t 0)), [nN M 12 (iN M t (nN M 4 t - 1))], NF2, by rw [← hF0], ?_, (hI.f.1 _ f0.1).1, (show 1 ≤ 24 by decide), Or.inr ⟨_, by rw [← hF0]; exact f0.1, rfl⟩, fun o q => by rw [List.mem_singleton] at q; subst q; rw [← hF0]; exact fL.1⟩))⟩
          · have ff := hR.f.2 _ (show nN M 12 (iN M t 0) < F by rw [← hF0]; exact f0.1)
            rw [z0.2 h2, hR.nt 50 _ rfl, ff.1, hR.nt 18 (iN M t 0) rfl, z0.2 h2, hR.nt 18 (iN M t (nN M 4 t - 1)) rfl, zL.2 L2, nI_add]
            have es : sup1 (nI (nN M 12 (iN M t (nN M 4 t - 1)) + 1)) = supL [nN M 12 (iN M t (nN M 4 t - 1))] := by
              funext j
              unfold sup1 supL
              by_cases hj : j = 0
              · subst hj; simp
              · rw [if_neg hj, if_neg (by show ¬ j < 1; omega)]
            rw [es]; rfl
        · rw [if_pos (z0.1.mpr h2), if_neg (show ¬ (M 8 (iN M t 0) = nI 2 ∧ M 8 (iN M t (nN M 4 t - 1)) = nI 2) from fun z => h2 ((m2 _).mp z.1)), if_pos (show M 8 (iN M t 0) = nI 1 ∧ M 8 (iN M t (nN M 4 t - 1)) = nI 2 from ⟨(m1 _).mpr (by omega), (m2 _).mpr L2⟩)]
          exact rs_as hI h1t ht q4 eL
  · -- limit
    rw [h] at hs ⊢
    have h4 : nN M 4 t = 1 := hs.1.2.2.2.1 (Or.inr (Or.inl rfl))
    obtain ⟨q1, q2⟩ := i0 (by omega)
    show (frsR K t = rsN ∧ (someB M t = true → asM M t (iN M t 0) = M)) ∨ (someB M t = true ∧ RsM n F M (asM M t (iN M t 0)) t (frsR K t))
    unfold frsR
    rw [erl5 hR hI h1t ht]
    by_cases hf : fstN M t true = 0
    · rw [if_pos hf]
      refine Or.inl ⟨rfl, fun z => ?_⟩
      obtain ⟨s, s1, s2⟩ := (some_iff hI.nt).mp z
      exact absurd ((fstB_t hI.nt).mpr s2) ((fst_0 hI h1t ht).mp hf s s1)
    · have m := fst_m hf
      have ei : fstN M t true = iN M t 0 := by
        obtain ⟨j, j1, j2⟩ := inL_mem.mp m.1
        have hj : j = 0 := by omega
        subst hj; exact j2.symm
      rw [if_neg hf]
      rw [ei] at m ⊢
      exact Or.inr (rs_as hI h1t ht m.1 ((fstB_t hI.nt).mp m.2))
end RULS
