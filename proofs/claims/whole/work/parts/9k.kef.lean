/-! the class's fields as naturals; what an end changes there -/
section KEFS
def exK (f : Nat) : Bool := decide (f = 4 ∨ f = 14 ∨ f = 17 ∨ f = 21 ∨ (54 ≤ f ∧ f ≤ 58) ∨ (61 ≤ f ∧ f ≤ 67) ∨ (4000 ≤ f ∧ f < 10000))
variable {n : Nat} {K K' K0 : MS} {t : Nat}
theorem ex_ls {f : Nat} (h : exK f = false) : f ≠ 63 ∧ ¬ isLs f := by
  have := of_decide_eq_false h
  unfold isLs
  omega
def jrE (K K' : MS) (v s ev : Nat) : Prop := nN K' 80 0 = nN K 80 0 + 1 ∧ (nN K' 82 (3 * nN K 80 0) = v ∧ nN K' 82 (3 * nN K 80 0 + 1) = s ∧ nN K' 82 (3 * nN K 80 0 + 2) = ev) ∧ (∀ i, i < 3 * nN K 80 0 → nN K' 82 i = nN K 82 i) ∧ 3 * nN K 80 0 + 3 ≤ nN K' 81 0 ∧ 192 ≤ nN K' 81 0 ∧ nN K' 81 0 ≤ 24000
theorem jrF_at {v s ev : Int32} {f : Nat → Int32} : jrF K v s ev f (3 * nN K 80 0) = v ∧ jrF K v s ev f (3 * nN K 80 0 + 1) = s ∧ jrF K v s ev f (3 * nN K 80 0 + 2) = ev ∧ ∀ i, i < 3 * nN K 80 0 → jrF K v s ev f i = f i := by
  unfold jrF
  refine ⟨by simp [upd], by simp [upd], by simp [upd], fun i hi => ?_⟩
  simp only [upd]
  rw [if_neg (by omega), if_neg (by omega), if_neg (by omega)]
theorem jrF_nn {v s ev : Nat} {f : Nat → Int32} (hf : ∀ i, f i = nI (f i).toNatClampNeg) (hv : v < 2 ^ 31) (hs : s < 2 ^ 31) (he : ev < 2 ^ 31) : ∀ i, jrF K (nI v) (nI s) (nI ev) f i = nI (jrF K (nI v) (nI s) (nI ev) f i).toNatClampNeg := by
  intro i
  by_cases h0 : i = 3 * nN K 80 0
  · rw [h0, jrF_at.1, nI_clamp hv]
  · by_cases h1 : i = 3 * nN K 80 0 + 1
    · rw [h1, jrF_at.2.1, nI_clamp hs]
    · by_cases h2 : i = 3 * nN K 80 0 + 2
      · rw [h2, jrF_at.2.2.1, nI_clamp he]
      · have : jrF K (nI v) (nI s) (nI ev) f i = f i := by unfold jrF; simp [upd, h0, h1, h2]
        rw [this]; exact hf i
theorem jrn_E {v s ev : Nat} (hj : jrOk K) (hg : nN K 80 0 ≤ 2900) (hN : NT exK K) (hv : v < 2 ^ 31) (hs : s < 2 ^ 31) (he : ev < 2 ^ 31) : jrE K (jrnK K (nI v) (nI s) (nI ev)) v s ev ∧ NT exK (jrnK K (nI v) (nI s) (nI ev)) := by
  obtain ⟨j1, j2, j3, j4, j5⟩ := hj
  have key : ∀ (f : Nat → Int32) (N : Nat), (∀ i, f i = nI (f i).toNatClampNeg) → (∀ i, i < 3 * nN K 80 0 → f i = K 82 i) → 3 * nN K 80 0 + 3 ≤ N → 192 ≤ N → N ≤ 24000 → jrE K (jrU K (jrF K (nI v) (nI s) (nI ev) f) (nI (nN K 80 0 + 1)) N) v s ev ∧ NT exK (jrU K (jrF K (nI v) (nI s) (nI ev) f) (nI (nN K 80 0 + 1)) N) := by
    intro f N hf hfo h1 h2 h3
    have q := jrF_at (K := K) (v := nI v) (s := nI s) (ev := nI ev) (f := f)
    generalize hJ : jrU K (jrF K (nI v) (nI s) (nI ev) f) (nI (nN K 80 0 + 1)) N = J
    have u80 : J 80 0 = nI (nN K 80 0 + 1) := by rw [← hJ, jrU_80]
    have u81 : J 81 0 = nI N := by rw [← hJ, jrU_81]
    have u82 : J 82 = jrF K (nI v) (nI s) (nI ev) f := by rw [← hJ, jrU_82]
    have uo : ∀ g i, g ≠ 82 → ¬ (g = 80 ∧ i = 0) → ¬ (g = 81 ∧ i = 0) → J g i = K g i := fun g i a b c => by rw [← hJ, jrU_o a b c]
    refine ⟨⟨nN_of u80 (by omega), ⟨nN_of (by rw [u82, q.1]) hv, nN_of (by rw [u82, q.2.1]) hs, nN_of (by rw [u82, q.2.2.1]) he⟩, fun i hi => by show (J 82 i).toNatClampNeg = (K 82 i).toNatClampNeg; rw [u82, q.2.2.2 i hi, hfo i hi], ?_, ?_, ?_⟩, fun g i hg2 => ?_⟩
    · rw [nN_of u81 (by omega)]; exact h1
    · rw [nN_of u81 (by omega)]; exact h2
    · rw [nN_of u81 (by omega)]; exact h3
    · show J g i = nI (J g i).toNatClampNeg
      by_cases g82 : g = 82
      · subst g82; rw [u82]; exact jrF_nn hf hv hs he i
      · by_cases g80 : g = 80 ∧ i = 0
        · obtain ⟨rfl, rfl⟩ := g80; rw [u80, nI_clamp (by omega)]
        · by_cases g81 : g = 81 ∧ i = 0
          · obtain ⟨rfl, rfl⟩ := g81; rw [u81, nI_clamp (by omega)]
          · rw [uo g i g82 g80 g81]; exact hN g i hg2
  have h82 : ∀ i, K 82 i = nI (K 82 i).toNatClampNeg := fun i => hN 82 i rfl
  unfold jrnK
  split
  · exact key _ _ h82 (fun _ _ => rfl) (by omega) j4 j5
  · refine key _ _ (fun i => ?_) (fun i hi => ?_) (by omega) (by omega) (by omega)
    · unfold trc; split
      · exact h82 i
      · rw [← nI_0, nI_clamp (by decide)]
    · unfold trc; rw [if_pos (by omega)]
theorem srvD_E (i : Nat) : ∀ (q j : Nat) (K : MS), NT exK K → (∀ a b, j ≤ a → a < b → b < j + q → iK K0 i a ≠ iK K0 i b) → (∀ a, j ≤ a → a < j + q → 1 ≤ nN K 22 (iK K0 i a)) →
    (∀ u, (∃ a, j ≤ a ∧ a < j + q ∧ iK K0 i a = u) → nN (srvD K0 i q j K) 22 u + 1 = nN K 22 u) ∧ (∀ u, ¬ (∃ a, j ≤ a ∧ a < j + q ∧ iK K0 i a = u) → nN (srvD K0 i q j K) 22 u = nN K 22 u) ∧ NT exK (srvD K0 i q j K)
  | 0, j, K, hN, _, _ => ⟨fun u ⟨a, h1, h2, _⟩ => by omega, fun u _ => rfl, hN⟩
  | q + 1, j, K, hN, hd, hp => by
    have hx := hp j (Nat.le_refl _) (by omega)
    have ev : K 22 (iK K0 i j) - nI 1 = nI (nN K 22 (iK K0 i j) - 1) := by rw [hN 22 _ rfl, pk_sub hx]
    have hb := nN_lt K 22 (iK K0 i j)
    have r := srvD_E i q (j + 1) (up2 K 22 (iK K0 i j) (K 22 (iK K0 i j) - nI 1)) (by rw [ev]; exact hN.upn (by omega)) (fun a b h1 h2 h3 => hd a b (by omega) h2 (by omega)) (fun a h1 h2 => by
      rw [ev, nN_sn (by omega), vu_n (fun q => hd j a (Nat.le_refl _) (by omega) (by omega) q.symm)]; exact hp a (by omega) (by omega))
    rw [srvD]
    rw [ev] at r ⊢
    obtain ⟨r1, r2, r3⟩ := r
    rw [nN_sn (by omega)] at r1 r2
    refine ⟨fun u ⟨a, h1, h2, h3⟩ => ?_, fun u hu => ?_, r3⟩
    · by_cases ha : a = j
      · subst ha
        subst h3
        rw [r2 _ (fun ⟨b, b1, b2, b3⟩ => hd a b (Nat.le_refl _) (by omega) (by omega) b3.symm), vu_s]
        omega
      · have := r1 u ⟨a, by omega, by omega, h3⟩
        rw [vu_n (fun q => hd j a (Nat.le_refl _) (by omega) (by omega) (by rw [h3, q]))] at this
        exact this
    · rw [r2 u (fun ⟨a, a1, a2, a3⟩ => hu ⟨a, by omega, by omega, a3⟩), vu_n (fun q => hu ⟨j, Nat.le_refl _, by omega, q.symm⟩)]
theorem NT.ls {a : Nat} (ha : a ≤ 13) (h : NT exK K) (e : ∀ f j, f ≠ 4000 + a → ¬ ((f = 63 ∨ f = 64 ∨ f = 65 ∨ f = 67) ∧ j = a) → K' f j = K f j) : NT exK K' := fun f j hf => by
  have := of_decide_eq_false hf
  rw [nN, e f j (by omega) (by omega)]; exact h f j hf
theorem ls_fe {a f : Nat} (ha : a ≤ 13) (hf : f < 63 ∨ (67 < f ∧ f < 4000) ∨ 10000 ≤ f) (e : ∀ f j, f ≠ 4000 + a → ¬ ((f = 63 ∨ f = 64 ∨ f = 65 ∨ f = 67) ∧ j = a) → K' f j = K f j) : K' f = K f := funext (fun j => e f j (by omega) (by omega))
theorem drp_e (a i : Nat) : ∀ f j, f ≠ 4000 + a → ¬ ((f = 63 ∨ f = 64 ∨ f = 65 ∨ f = 67) ∧ j = a) → drpK K a i f j = K f j := fun _ _ h1 h2 => drp_o h1 h2
theorem add_e (a i : Nat) : ∀ f j, f ≠ 4000 + a → ¬ ((f = 63 ∨ f = 64 ∨ f = 65 ∨ f = 67) ∧ j = a) → addK K a i f j = K f j := fun _ _ h1 h2 => add_o h1 h2
theorem clr_e (a : Nat) : ∀ f j, f ≠ 4000 + a → ¬ ((f = 63 ∨ f = 64 ∨ f = 65 ∨ f = 67) ∧ j = a) → clrK K a f j = K f j := fun _ _ h1 h2 => clr_o h1 h2
theorem lsL_up {a f j : Nat} {v : Int32} (ha : a ≤ 13) (hf : f < 63 ∨ (67 < f ∧ f < 4000) ∨ 10000 ≤ f) : lsL (up2 K f j v) a = lsL K a := lsL_e ha (up_ls (fun q => by unfold isLs at q; omega))
theorem rel_E (hL : LA K n) (hn : n ≤ 201) (hN : NT exK K) (hh : nN K 31 t ≤ 12) :
    lsL (relK K t) 0 = (lsL K 0).erase t ∧ (∀ c, 1 ≤ c → c ≤ 12 → lsL (relK K t) c = if c = nN K 31 t then (lsL K c).erase t else lsL K c) ∧ lsL (relK K t) 13 = lsL K 13 ∧ nN (relK K t) 31 = va_up (nN K 31) t 0 ∧ nN (relK K t) 29 = (if nN K 31 t = 0 then nN K 29 else va_up (nN K 29) t (if nN K 16 t = 7 then 1 else 0)) ∧ NT exK (relK K t) := by
  have d0 := drp_L (i := t) (hL 0 (by decide)).1 hn
  have dn : ∀ b, b ≤ 13 → b ≠ 0 → lsL (drpK K 0 t) b = lsL K b := fun b hb h0 => (oth_L (n := n) (i := 0) hb (by decide) h0 (drp_e 0 t)).1
  unfold relK
  by_cases h : K 31 t = 0
  · rw [if_pos h]
    have h' : nN K 31 t = 0 := (hN.z rfl).mp h
    refine ⟨d0, fun c h1 h2 => ?_, dn 13 (by decide) (by decide), ?_, ?_, hN.ls (by decide) (drp_e 0 t)⟩
    · rw [h', if_neg (by omega)]; exact dn c (by omega) (by omega)
    · rw [nN_e (ls_fe (by decide) (by decide) (drp_e 0 t)), ← h', vu_id]
    · rw [if_pos h', nN_e (ls_fe (by decide) (by decide) (drp_e 0 t))]
  · rw [if_neg h]
    have h' : nN K 31 t ≠ 0 := fun q => h ((hN.z rfl).mpr q)
    have hb : bI (decide (K 16 t = nI 7)) = nI (if nN K 16 t = 7 then 1 else 0) := by
      rw [bI_nn]
      by_cases h7 : nN K 16 t = 7
      · rw [if_pos h7, if_pos (decide_eq_true ((hN.eq rfl (by decide)).mpr h7))]
      · rw [if_neg h7, if_neg (fun q => h7 ((hN.eq rfl (by decide)).mp (of_decide_eq_true q)))]
    have NA : NT exK (relA K t) := by unfold relA; rw [hb]; exact (hN.ls (by decide) (drp_e 0 t)).upn (by split <;> decide)
    have lA : ∀ b, b ≤ 13 → lsL (relA K t) b = lsL (drpK K 0 t) b := fun b hb2 => by unfold relA; exact lsL_up hb2 (by decide)
    have LA1 : LA (relA K t) n := by unfold relA; exact (hL.drp hn (by decide)).up _ (fun q => by unfold isLs at q; omega)
    generalize hc : nN K 31 t = c0 at hh h' ⊢
    have d1 := drp_L (i := t) (LA1 c0 (by omega)).1 hn
    have dn1 : ∀ b, b ≤ 13 → b ≠ c0 → lsL (drpK (relA K t) c0 t) b = lsL (relA K t) b := fun b hb2 h0 => (oth_L (n := n) (i := 0) hb2 (by omega) h0 (drp_e c0 t)).1
    refine ⟨?_, fun c h1 h2 => ?_, ?_, ?_, ?_, ?_⟩
    · rw [lsL_up (by decide) (by decide), dn1 0 (by decide) (by omega), lA 0 (by decide), d0]
    · rw [lsL_up (by omega) (by decide)]
      by_cases hcc : c = c0
      · subst hcc; rw [if_pos rfl, d1, lA c (by omega), dn c (by omega) (by omega)]
      · rw [if_neg hcc, dn1 c (by omega) hcc, lA c (by omega), dn c (by omega) (by omega)]
    · rw [lsL_up (by decide) (by decide), dn1 13 (by decide) (by omega), lA 13 (by decide), dn 13 (by decide) (by decide)]
    · rw [← nI_0, nN_sn (by decide), nN_e (ls_fe (by omega) (by decide) (drp_e c0 t)), relA, nN_f (by decide), nN_e (ls_fe (by decide) (by decide) (drp_e 0 t))]
    · rw [if_neg h', nN_f (by decide), nN_e (ls_fe (by omega) (by decide) (drp_e c0 t)), relA, hb, nN_sn (by split <;> decide), nN_e (ls_fe (by decide) (by decide) (drp_e 0 t))]
    · rw [← nI_0]; exact (NA.ls (by omega) (drp_e c0 t)).upn (by decide)
/-- what an end changes in the class -/
def ekF (f : Nat) : Bool := decide (f = 3 ∨ f = 19 ∨ f = 20 ∨ f = 22 ∨ f = 29 ∨ f = 31 ∨ f = 63 ∨ f = 64 ∨ f = 65 ∨ f = 67 ∨ (80 ≤ f ∧ f ≤ 82) ∨ (4000 ≤ f ∧ f < 10000))
def EndK (n : Nat) (K K' : MS) (t : Nat) : Prop :=
  (nN K' 3 0 = nN K 3 0 + 1 ∧ nN K' 20 = va_up (nN K 20) t (nN K 3 0 + 1) ∧ nN K' 19 = va_up (nN K 19) t (nN K 2 0)) ∧ jrE K K' (nN K 2 0) t (nN K 16 t - 3) ∧
  ((∀ u, (∃ a, a < nN K 12 t ∧ iK K t a = u) → nN K' 22 u + 1 = nN K 22 u) ∧ ∀ u, ¬ (∃ a, a < nN K 12 t ∧ iK K t a = u) → nN K' 22 u = nN K 22 u) ∧
  ((∀ c, c ≤ 12 → lsL K' c = (lsL K c).erase t) ∧ lsL K' 13 = lsL K 13 ++ (if nN K 16 t = 7 then [t] else [])) ∧
  ((isWK K t = true → nN K' 31 = va_up (nN K 31) t 0 ∧ nN K' 29 = if nN K 31 t = 0 then nN K 29 else va_up (nN K 29) t (if nN K 16 t = 7 then 1 else 0)) ∧ (isWK K t = false → nN K' 31 = nN K 31 ∧ nN K' 29 = nN K 29)) ∧
  NT exK K' ∧ LA K' n ∧ ∀ f, ekF f = false → K' f = K f
theorem nte_E (hL : LA K n) (hn : n ≤ 200) (hN : NT exK K) (hj : jrOk K) (hg : nN K 80 0 ≤ 2900) (ht : 1 ≤ t ∧ t ≤ n) (h10 : nN K 10 t = t) (h16 : 5 ≤ nN K 16 t) (hw : isWK K t = true → nN K 31 t ≤ 12)
    (he : nN K 3 0 < 200) (hdi : ∀ a b, a < b → b < nN K 12 t → iK K t a ≠ iK K t b) (h22 : ∀ a, a < nN K 12 t → 1 ≤ nN K 22 (iK K t a))
    (h13 : t ∉ lsL K 13 ∨ nN K 16 t ≠ 7) (h13l : (lsL K 13).length ≤ 200) (hp : ∀ c, c ≤ 12 → t ∈ lsL K c → isWK K t = true ∧ (c ≠ 0 → nN K 31 t = c)) : EndK n K (nteK K t) t := by
  have b2 := nN_lt K 2 0
  have b16 := nN_lt K 16 t
  -- A
  have eA : K 3 0 + nI 1 = nI (nN K 3 0 + 1) := by rw [hN 3 0 rfl, nI_add]
  have hA : nteA K t = up2 (up2 (up2 K 3 0 (nI (nN K 3 0 + 1))) 20 t (nI (nN K 3 0 + 1))) 19 t (nI (nN K 2 0)) := by unfold nteA; rw [eA, ← hN 2 0 rfl]
  have NA : NT exK (nteA K t) := by rw [hA]; exact ((hN.upn (by omega)).upn (by omega)).upn b2
  have oA : ∀ f, f ≠ 3 → f ≠ 20 → f ≠ 19 → nteA K t f = K f := fun f h1 h2 h3 => funext (fun j => nteA_o h1 h2 h3)
  have A3 : nN (nteA K t) 3 0 = nN K 3 0 + 1 := by rw [hA, nN_f (by decide), nN_f (by decide), nN_sn (by omega), vu_s]
  have A20 : nN (nteA K t) 20 = va_up (nN K 20) t (nN K 3 0 + 1) := by rw [hA, nN_f (by decide), nN_sn (by omega), nN_f (by decide)]
  have A19 : nN (nteA K t) 19 = va_up (nN K 19) t (nN K 2 0) := by rw [hA, nN_sn b2, nN_f (by decide), nN_f (by decide)]
  -- B
  have eB : nteB K t = jrnK (nteA K t) (nI (nN K 2 0)) (nI t) (nI (nN K 16 t - 3)) := by
    unfold nteB
    rw [hN 2 0 rfl, hN 10 t rfl, h10, hN 16 t rfl, pk_sub (by omega)]
  have jA : jrOk (nteA K t) := jrOk_e (by rw [oA 80 (by decide) (by decide) (by decide)]) (by rw [oA 81 (by decide) (by decide) (by decide)]) hj
  have A80 : nN (nteA K t) 80 = nN K 80 := nN_e (oA 80 (by decide) (by decide) (by decide))
  have A82 : nN (nteA K t) 82 = nN K 82 := nN_e (oA 82 (by decide) (by decide) (by decide))
  obtain ⟨jB, NB⟩ := jrn_E (K := nteA K t) (v := nN K 2 0) (s := t) (ev := nN K 16 t - 3) jA (by rw [A80]; exact hg) NA b2 (by omega) (by omega)
  rw [← eB] at jB NB
  have oB : ∀ f, f ≠ 80 → f ≠ 81 → f ≠ 82 → nteB K t f = nteA K t f := fun f h1 h2 h3 => funext (fun j => by rw [eB]; exact jrn_o h3 (fun e => h1 e.1) (fun e => h2 e.1))
  -- C
  have B22 : nN (nteB K t) 22 = nN K 22 := by rw [nN_e (oB 22 (by decide) (by decide) (by decide)), nN_e (oA 22 (by decide) (by decide) (by decide))]
  obtain ⟨s1, s2, NC⟩ := srvD_E (K0 := K) t (nN K 12 t) 0 (nteB K t) NB (fun a b h1 h2 h3 => hdi a b h2 (by omega)) (fun a h1 h2 => by rw [B22]; exact h22 a (by omega))
  have eC : nteC K t = srvD K t (nN K 12 t) 0 (nteB K t) := rfl
  rw [← eC, B22] at s1 s2
  rw [← eC] at NC
  have oC : ∀ f, f ≠ 22 → nteC K t f = nteB K t f := fun f h => srvD_o _ _ _ _ _ f h
  have oC2 : ∀ f, f ≠ 3 → f ≠ 20 → f ≠ 19 → f ≠ 80 → f ≠ 81 → f ≠ 82 → f ≠ 22 → nteC K t f = K f := fun f h1 h2 h3 h4 h5 h6 h7 => funext (fun j => nteC_o h1 h2 h3 h4 h5 h6 h7)
  have lC : ∀ b, b ≤ 13 → lsL (nteC K t) b = lsL K b := fun b hb => lsL_e hb (nteC_ls K t)
  have LC : LA (nteC K t) n := hL.cg (nteC_ls K t)
  have C31 : nN (nteC K t) 31 = nN K 31 := nN_e (oC2 31 (by decide) (by decide) (by decide) (by decide) (by decide) (by decide) (by decide))
  have C29 : nN (nteC K t) 29 = nN K 29 := nN_e (oC2 29 (by decide) (by decide) (by decide) (by decide) (by decide) (by decide) (by decide))
  have C16 : nN (nteC K t) 16 = nN K 16 := nN_e (oC2 16 (by decide) (by decide) (by decide) (by decide) (by decide) (by decide) (by decide))
  -- D
  have LD : LA (nteD K t) n := hL.nte (by omega) hw
  have D : (∀ c, c ≤ 12 → lsL (nteD K t) c = (lsL K c).erase t) ∧ lsL (nteD K t) 13 = lsL K 13 ∧ ((isWK K t = true → nN (nteD K t) 31 = va_up (nN K 31) t 0 ∧ nN (nteD K t) 29 = if nN K 31 t = 0 then nN K 29 else va_up (nN K 29) t (if nN K 16 t = 7 then 1 else 0)) ∧ (isWK K t = false → nN (nteD K t) 31 = nN K 31 ∧ nN (nteD K t) 29 = nN K 29)) ∧ NT exK (nteD K t) := by
    cases hW : isWK K t with
    | true =>
      have eD : nteD K t = relK (nteC K t) t := by unfold nteD; rw [if_pos hW]
      rw [eD]
      obtain ⟨r0, r1, r13, r31, r29, rN⟩ := rel_E (t := t) LC (by omega) NC (by rw [C31]; exact hw hW)
      rw [C31] at r1 r31 r29
      rw [C29, C16] at r29
      refine ⟨fun c hc => ?_, by rw [r13, lC 13 (by decide)], ⟨fun _ => ⟨r31, r29⟩, fun q => (by cases q)⟩, rN⟩
      by_cases h0 : c = 0
      · subst h0; rw [r0, lC 0 (by decide)]
      · rw [r1 c (by omega) hc, lC c (by omega)]
        by_cases hcc : c = nN K 31 t
        · rw [if_pos hcc]
        · rw [if_neg hcc, List.erase_of_not_mem]
          exact fun hm => hcc ((hp c hc hm).2 h0).symm
    | false =>
      have eD : nteD K t = nteC K t := by unfold nteD; rw [if_neg (by rw [hW]; decide)]
      rw [eD]
      refine ⟨fun c hc => ?_, lC 13 (by decide), ⟨fun q => (by cases q), fun _ => ⟨C31, C29⟩⟩, NC⟩
      rw [lC c (by omega), List.erase_of_not_mem]
      intro hm
      have := (hp c hc hm).1
      rw [hW] at this
      cases this
  obtain ⟨D0, D13, D31, ND⟩ := D
  have oD : ∀ f, f ≠ 29 → f ≠ 31 → f ≠ 63 → ¬ isLs f → nteD K t f = nteC K t f := fun f h1 h2 h3 h4 => funext (fun j => nteD_o hw h1 h2 h3 h4)
  -- K
  have key : ∀ K', (∀ f j, f ≠ 4000 + 13 → ¬ ((f = 63 ∨ f = 64 ∨ f = 65 ∨ f = 67) ∧ j = 13) → K' f j = nteD K t f j) → lsL K' 13 = lsL K 13 ++ (if nN K 16 t = 7 then [t] else []) → LA K' n → EndK n K K' t := by
    intro K' e e13 L'
    have eo : ∀ f, f < 63 ∨ (67 < f ∧ f < 4000) ∨ 10000 ≤ f → K' f = nteD K t f := fun f hf => ls_fe (by decide) hf e
    have eo2 : ∀ f, f ≠ 29 → f ≠ 31 → f < 63 ∨ (67 < f ∧ f < 4000) ∨ 10000 ≤ f → K' f = nteC K t f := fun f h1 h2 hf => by rw [eo f hf, oD f h1 h2 (by omega) (fun q => by unfold isLs at q; omega)]
    refine ⟨⟨?_, ?_, ?_⟩, ?_, ⟨fun u hu => ?_, fun u hu => ?_⟩, ⟨fun c hc => ?_, e13⟩, ⟨fun q => ?_, fun q => ?_⟩, ND.ls (by decide) e, L', fun f hf => ?_⟩
    · rw [nN_e (eo2 3 (by decide) (by decide) (by decide)), nN_e (oC 3 (by decide)), nN_e (oB 3 (by decide) (by decide) (by decide)), A3]
    · rw [nN_e (eo2 20 (by decide) (by decide) (by decide)), nN_e (oC 20 (by decide)), nN_e (oB 20 (by decide) (by decide) (by decide)), A20]
    · rw [nN_e (eo2 19 (by decide) (by decide) (by decide)), nN_e (oC 19 (by decide)), nN_e (oB 19 (by decide) (by decide) (by decide)), A19]
    · obtain ⟨q1, q2, q3, q4⟩ := jB
      rw [A80] at q1 q2 q3 q4
      rw [A82] at q3
      have f80 : nN K' 80 = nN (nteB K t) 80 := by rw [nN_e (eo2 80 (by decide) (by decide) (by decide)), nN_e (oC 80 (by decide))]
      have f81 : nN K' 81 = nN (nteB K t) 81 := by rw [nN_e (eo2 81 (by decide) (by decide) (by decide)), nN_e (oC 81 (by decide))]
      have f82 : nN K' 82 = nN (nteB K t) 82 := by rw [nN_e (eo2 82 (by decide) (by decide) (by decide)), nN_e (oC 82 (by decide))]
      refine ⟨by rw [f80]; exact q1, by rw [f82]; exact q2, fun i hi => by rw [f82]; exact q3 i hi, by rw [f81]; exact q4⟩
    · rw [nN_e (eo2 22 (by decide) (by decide) (by decide))]
      obtain ⟨a, a1, a2⟩ := hu
      exact s1 u ⟨a, Nat.zero_le _, by omega, a2⟩
    · rw [nN_e (eo2 22 (by decide) (by decide) (by decide))]
      exact s2 u (fun ⟨a, a0, a1, a2⟩ => hu ⟨a, by omega, a2⟩)
    · rw [(oth_L (K := nteD K t) (K' := K') (n := n) (i := 0) (by omega) (by decide) (by omega) e).1, D0 c hc]
    · rw [nN_e (eo 31 (by decide)), nN_e (eo 29 (by decide))]; exact D31.1 q
    · rw [nN_e (eo 31 (by decide)), nN_e (eo 29 (by decide))]; exact D31.2 q
    · have := of_decide_eq_false hf
      by_cases h66 : f = 66
      · subst h66
        funext j
        rw [e 66 j (by decide) (by omega), nteD_o hw (by decide) (by decide) (by decide) (fun q => by unfold isLs at q; omega), nteC_o (by decide) (by decide) (by decide) (by decide) (by decide) (by decide) (by decide)]
      · rw [eo2 f (by omega) (by omega) (by omega), oC2 f (by omega) (by omega) (by omega) (by omega) (by omega) (by omega) (by omega)]
  unfold nteK
  by_cases h7 : K 16 t = nI 7
  · have h7' : nN K 16 t = 7 := nN_of h7 (by decide)
    rw [if_pos h7]
    have hnm : t ∉ lsL (nteD K t) 13 := by rw [D13]; exact h13.elim id (fun q => absurd h7' q)
    refine key _ (add_e 13 t) ?_ (LD.add (by omega) (by decide) ht hnm (by rw [D13]; exact h13l))
    rw [add_L (LD 13 (by decide)).1 (by omega) (by rw [D13]; omega) ht, D13, if_pos h7']
  · rw [if_neg h7]
    refine key _ (fun _ _ _ _ => rfl) ?_ LD
    rw [D13, if_neg (fun q => h7 ((hN.eq rfl (by decide)).mpr q)), List.append_nil]
end KEFS
