/-! taking, in the relation -/
section TKRS
variable {n k F w x y : Nat} {K K1 K' : MS} {L L' : KL} {M M1 M' : MS} {t h : Nat}
theorem mrk_o {v f : Nat} : mrkL L v (1 + f) = L (1 + f) := by
  unfold mrkL
  split
  · unfold upL0; rw [if_neg (by omega)]
  · rfl
theorem mrk_hg {v i u : Nat} : hgB (mrkL L v) i u = hgB L i u := by unfold hgB; rw [mrk_o]
theorem mrk_mk {v : Nat} (u : Nat) : mkB L u = true → mkB (mrkL L v) u = true := by
  unfold mkB
  rw [Bool.and_eq_true, Bool.and_eq_true]
  rintro ⟨h1, h2⟩
  refine ⟨h1, ?_⟩
  unfold mrkL
  split
  · unfold upL0
    rw [if_pos rfl]
    unfold vp_updL
    split
    · rename_i e
      rw [bL_or, Bool.or_eq_true]
      exact Or.inl (by rw [← e]; exact h2)
    · exact h2
  · exact h2
theorem mrk_s {v : Nat} (hv : v ≤ 10000) : mkB (mrkL L v) v = true := by
  unfold mkB
  rw [Bool.and_eq_true]
  refine ⟨decide_eq_true hv, ?_⟩
  unfold mrkL
  rw [if_pos hv]
  unfold upL0
  rw [if_pos rfl]
  unfold vp_updL
  rw [if_pos rfl, bL_or, bL_one _ (Nat.mod_lt _ (by decide)) _ (Nat.mod_lt _ (by decide)), decide_eq_true rfl, Bool.or_true]
theorem qH.mrk {v : Nat} (h : qH n L M) : qH n (mrkL L v) M := by
  intro t h1 h2 u hu
  rw [mrk_hg, h t h1 h2 u hu]
  constructor
  · rintro (z | ⟨s, s1, s2⟩)
    · exact Or.inl z
    · exact Or.inr ⟨s, s1, by rw [mrk_hg]; exact s2⟩
  · rintro (z | ⟨s, s1, s2⟩)
    · exact Or.inl z
    · exact Or.inr ⟨s, s1, by rw [mrk_hg] at s2; exact s2⟩
theorem qJ.lg {v s ev : Nat} (hq : qJ K M) (jE : jrE K K' v s ev) (lE : lgE M M' s ev) (hv : v = nN M 0 0) : qJ K' M' := by
  obtain ⟨g1, g2, g3⟩ := hq
  obtain ⟨j1, j2, j3, j4⟩ := jE
  obtain ⟨l1, l2, l3, l4⟩ := lE
  refine ⟨by rw [j1, l4, g1], ⟨by rw [j1]; omega, j4.2.1, j4.2.2⟩, fun j hj => ?_⟩
  rw [l4] at hj
  rw [l1, l2, l3]
  by_cases hj2 : j = nN M 53 0
  · subst hj2
    rw [g1] at j2
    rw [vu_s, vu_s, vu_s, j2.1, j2.2.1, j2.2.2]
    exact ⟨hv, rfl, rfl⟩
  · rw [vu_n hj2, vu_n hj2, vu_n hj2, j3 _ (by omega), j3 _ (by omega), j3 _ (by omega)]
    exact g3 j (by omega)
theorem Rel.e11 (hR : Rel n k F K L M) (hI : Inv n k w x y M) (h1t : 1 ≤ t) (ht : t ≤ n) : K 11 t = nI 3 ↔ nN M 2 t = 11 := by
  rw [hR.nt.eq rfl (by decide), (hR.s t h1t ht).2.1]
  have := (hI.s.2 t h1t ht).1.1
  unfold fm
  split
  · omega
  · split <;> omega
def tkF9 (f : Nat) : Bool := decide (f = 16 ∨ (25 ≤ f ∧ f ≤ 28) ∨ f = 30 ∨ f = 31 ∨ (63 ≤ f ∧ f ≤ 67) ∨ (80 ≤ f ∧ f ≤ 82) ∨ (4000 ≤ f ∧ f < 10000))
theorem Rel.take {c b : Nat} (hR : Rel n k F K L M) (hI : Inv n k w 0 0 M) (h1c : 1 ≤ c) (hck : c ≤ k) (h1b : 1 ≤ b) (hb : b ≤ n) (ho : nN M 8 b = 0) (h9 : 9 ≤ nN M 2 b) (hr : nN M 19 b = 1) (E : TkE M M' c b) :
    Rel n k F (tkK K c b) (mrkL L (tkO K b).toNatClampNeg) M' ∧ lsL (tkK K c b) 13 = lsL K 13 ∧ tkO K b = nI (nN M 0 0 + (if nN M 2 b = 11 then nN M 18 b / 2 else nN M 18 b)) ∧ nN (tkK K c b) 61 = nN K 61 ∧ tkK K c b 61 = K 61 := by
  have bd := hI.bd (by decide) (by decide)
  obtain ⟨a1, a2, a3, a4, a5, a6, a7⟩ := hI.a
  have e11 := hR.e11 hI h1b hb
  have rs := hR.s b h1b hb
  have rw9 := hR.w b h1b hb h9
  have h18 := (hI.s.2 b h1b hb).2.2.2.2.2.1 h9
  have k23 : nN K 23 b = nN M 18 b := (rs.2.2.2.2.2.2 h9).1
  have k2 : nN K 2 0 = nN M 0 0 := hR.a.2.2.1
  have d := hI.d b h1b hb
  have h21 : nN M 21 b + 1 < 2 ^ 31 := by have := d.2.1; have := d.2.2.2.1; have := (hI.s.2 b h1b hb).2.2.2.2.2.2.1; omega
  have eO : tkO K b = nI (nN M 0 0 + (if nN M 2 b = 11 then nN M 18 b / 2 else nN M 18 b)) := by
    unfold tkO
    by_cases z : nN M 2 b = 11
    · rw [if_pos (e11.mpr z), if_pos z, hR.nt 2 0 rfl, hR.nt 23 b rfl, k23, k2, pk_div (by omega) (by decide) (by decide), nI_add]
    · rw [if_neg (fun q => z (e11.mp q)), if_neg z, hR.nt 2 0 rfl, hR.nt 23 b rfl, k23, k2, nI_add]
  generalize hO : nN M 0 0 + (if nN M 2 b = 11 then nN M 18 b / 2 else nN M 18 b) = O at eO
  have hOb : O ≤ 10060 := by rw [← hO]; split <;> omega
  have hbm : b ∈ lsL K 0 := (hR.p.2.1 b).mpr ⟨⟨h1b, hb⟩, h9, ho, hr⟩
  have hbc : b ∉ lsL K c := fun z => by
    rw [(hR.p.1 c h1c (by omega)).1] at z
    have := ((hI.p c (by omega)).2.2 b z).2.2.2.2.1
    omega
  -- lists
  have L1 : LA (drpK K 0 b) n := hR.la.drp (by omega) (by decide)
  have d0 : lsL (drpK K 0 b) 0 = (lsL K 0).erase b := drp_L (hR.la 0 (by decide)).1 (by omega)
  have dn : ∀ a, a ≤ 13 → a ≠ 0 → lsL (drpK K 0 b) a = lsL K a := fun a ha h0 => (oth_L (n := n) (i := 0) ha (by decide) h0 (drp_e 0 b)).1
  have lc : (lsL K c).length ≤ 200 := by
    have := nd_len (hR.la c (by omega)).2.1 ((hR.la c (by omega)).1.2.2.2.2.1); omega
  have t0 : lsL (tkK1 K c b) 0 = (lsL K 0).erase b := by
    unfold tkK1; rw [(oth_L (n := n) (i := 0) (by decide) (by omega) (by omega) (add_e c b)).1, d0]
  have tc : lsL (tkK1 K c b) c = lsL K c ++ [b] := by
    unfold tkK1; rw [add_L (L1 c (by omega)).1 (by omega) (by rw [dn c (by omega) (by omega)]; omega) ⟨h1b, hb⟩, dn c (by omega) (by omega)]
  have tn : ∀ a, a ≤ 13 → a ≠ 0 → a ≠ c → lsL (tkK1 K c b) a = lsL K a := fun a ha h0 hc => by
    unfold tkK1; rw [(oth_L (n := n) (i := 0) ha (by omega) hc (add_e c b)).1, dn a ha h0]
  have L2 : LA (tkK1 K c b) n := L1.add (by omega) (by omega) ⟨h1b, hb⟩ (by rw [dn c (by omega) (by omega)]; exact hbc) (by rw [dn c (by omega) (by omega)]; exact lc)
  have N1 : NT exK (tkK1 K c b) := (hR.nt.ls (by decide) (drp_e 0 b)).ls (by omega) (add_e c b)
  have o1 : ∀ f, f < 63 ∨ (67 < f ∧ f < 4000) ∨ 10000 ≤ f → tkK1 K c b f = K f := fun f hf => by
    unfold tkK1; rw [ls_fe (by omega) hf (add_e c b), ls_fe (by decide) hf (drp_e 0 b)]
  have k60 : tkK1 K c b 60 c = nI c := by rw [o1 60 (by decide)]; exact (hR.nt.eq rfl (by omega)).mpr (hR.p.1 c h1c (by omega)).2
  -- the rest
  have e27 : K 27 b + nI 1 = nI (nN M 21 b + 1) := by rw [hR.nt 27 b rfl, rw9.1.2.1, nI_add]
  have e28 : bI (decide (K 11 b = nI 3)) = nI (if nN M 2 b = 11 then 1 else 0) := by
    rw [bI_nn]
    by_cases z : nN M 2 b = 11
    · rw [if_pos z, if_pos (decide_eq_true (e11.mpr z))]
    · rw [if_neg z, if_neg (fun q => z (e11.mp (of_decide_eq_true q)))]
  have e3 : tkK3 K c b = up2 (up2 (up2 (up2 (up2 (up2 (up2 (tkK1 K c b) 31 b (nI c)) 30 b (nI c)) 28 b (nI (if nN M 2 b = 11 then 1 else 0))) 27 b (nI (nN M 21 b + 1))) 26 b (nI (nN M 0 0))) 25 b (nI O)) 16 b (nI 2) := by
    unfold tkK3 bwK tkK2
    rw [k60]
    have q11 : up2 (up2 (tkK1 K c b) 31 b (nI c)) 30 b (nI c) 11 b = K 11 b := by rw [up2_f (by decide), up2_f (by decide), o1 11 (by decide)]
    have q27 : up2 (up2 (tkK1 K c b) 31 b (nI c)) 30 b (nI c) 27 b = K 27 b := by rw [up2_f (by decide), up2_f (by decide), o1 27 (by decide)]
    have q23 : up2 (up2 (tkK1 K c b) 31 b (nI c)) 30 b (nI c) 23 b = K 23 b := by rw [up2_f (by decide), up2_f (by decide), o1 23 (by decide)]
    rw [q11, q27, q23, e27, e28]
    have : K 2 0 + (if K 11 b = nI 3 then K 23 b / nI 2 else K 23 b) = nI O := eO
    rw [this, hR.nt 2 0 rfl, k2]
  have b28 : (if nN M 2 b = 11 then 1 else 0) < 2 ^ 31 := by split <;> decide
  have N3 : NT exK (tkK3 K c b) := by
    rw [e3]
    exact ((((((N1.upn (by omega)).upn (by omega)).upn b28).upn h21).upn (by omega)).upn (by omega)).upn (by decide)
  have o3 : ∀ f, tkF9 f = false → tkK3 K c b f = K f := fun f hf => by
    have := of_decide_eq_false hf
    rw [e3, up2_f (by omega), up2_f (by omega), up2_f (by omega), up2_f (by omega), up2_f (by omega), up2_f (by omega), up2_f (by omega), o1 f (by omega)]
  have o3j : ∀ f, 80 ≤ f → f ≤ 82 → tkK3 K c b f = K f := fun f h1 h2 => by
    rw [e3, up2_f (by omega), up2_f (by omega), up2_f (by omega), up2_f (by omega), up2_f (by omega), up2_f (by omega), up2_f (by omega), o1 f (by omega)]
  have l3 : ∀ a, a ≤ 13 → lsL (tkK3 K c b) a = lsL (tkK1 K c b) a := fun a ha => by
    rw [e3, lsL_up ha (by decide), lsL_up ha (by decide), lsL_up ha (by decide), lsL_up ha (by decide), lsL_up ha (by decide), lsL_up ha (by decide), lsL_up ha (by decide)]
  have L3 : LA (tkK3 K c b) n := by
    rw [e3]
    exact ((((((L2.up _ (fun q => by unfold isLs at q; omega)).up _ (fun q => by unfold isLs at q; omega)).up _ (fun q => by unfold isLs at q; omega)).up _ (fun q => by unfold isLs at q; omega)).up _ (fun q => by unfold isLs at q; omega)).up _ (fun q => by unfold isLs at q; omega)).up _ (fun q => by unfold isLs at q; omega)
  have j3 : jrOk (tkK3 K c b) := jrOk_e (by rw [o3j 80 (by decide) (by decide)]) (by rw [o3j 81 (by decide) (by decide)]) (hR.jr hI (by decide) (by decide))
  have g80 : nN (tkK3 K c b) 80 = nN K 80 := nN_e (o3j 80 (by decide) (by decide))
  have g82 : nN (tkK3 K c b) 82 = nN K 82 := nN_e (o3j 82 (by decide) (by decide))
  obtain ⟨jE, NK⟩ := jrn_E (K := tkK3 K c b) (v := nN M 0 0) (s := b) (ev := 1) j3 (by rw [g80, hR.j.1]; omega) N3 (by omega) (by omega) (by decide)
  have eK : tkK K c b = jrnK (tkK3 K c b) (nI (nN M 0 0)) (nI b) (nI 1) := by
    unfold tkK
    rw [hR.nt 2 0 rfl, k2, hR.nt 10 b rfl, rs.1]
  rw [← eK] at jE NK
  have oK : ∀ f, f ≠ 80 → f ≠ 81 → f ≠ 82 → tkK K c b f = tkK3 K c b f := fun f h1 h2 h3 => funext (fun j => by rw [eK]; exact jrn_o h3 (fun e => h1 e.1) (fun e => h2 e.1))
  have ko : ∀ f, tkF9 f = false → tkK K c b f = K f := fun f hf => by
    have := of_decide_eq_false hf
    rw [oK f (by omega) (by omega) (by omega), o3 f hf]
  have elK : ∀ f j, isLs f → tkK K c b f j = tkK3 K c b f j := fun f j hf => by rw [oK f (by unfold isLs at hf; omega) (by unfold isLs at hf; omega) (by unfold isLs at hf; omega)]
  have lK : ∀ a, a ≤ 13 → lsL (tkK K c b) a = lsL (tkK1 K c b) a := fun a ha => by rw [lsL_e ha elK, l3 a ha]
  have u16 : nN (tkK K c b) 16 = va_up (nN K 16) b 2 := by rw [nN_e (oK 16 (by decide) (by decide) (by decide)), e3, nN_sn (by decide), nN_f (by decide), nN_f (by decide), nN_f (by decide), nN_f (by decide), nN_f (by decide), nN_f (by decide), nN_e (o1 16 (by decide))]
  have u25 : nN (tkK K c b) 25 = va_up (nN K 25) b O := by rw [nN_e (oK 25 (by decide) (by decide) (by decide)), e3, nN_f (by decide), nN_sn (by omega), nN_f (by decide), nN_f (by decide), nN_f (by decide), nN_f (by decide), nN_f (by decide), nN_e (o1 25 (by decide))]
  have u26 : nN (tkK K c b) 26 = va_up (nN K 26) b (nN M 0 0) := by rw [nN_e (oK 26 (by decide) (by decide) (by decide)), e3, nN_f (by decide), nN_f (by decide), nN_sn (by omega), nN_f (by decide), nN_f (by decide), nN_f (by decide), nN_f (by decide), nN_e (o1 26 (by decide))]
  have u27 : nN (tkK K c b) 27 = va_up (nN K 27) b (nN M 21 b + 1) := by rw [nN_e (oK 27 (by decide) (by decide) (by decide)), e3, nN_f (by decide), nN_f (by decide), nN_f (by decide), nN_sn h21, nN_f (by decide), nN_f (by decide), nN_f (by decide), nN_e (o1 27 (by decide))]
  have u28 : nN (tkK K c b) 28 = va_up (nN K 28) b (if nN M 2 b = 11 then 1 else 0) := by rw [nN_e (oK 28 (by decide) (by decide) (by decide)), e3, nN_f (by decide), nN_f (by decide), nN_f (by decide), nN_f (by decide), nN_sn b28, nN_f (by decide), nN_f (by decide), nN_e (o1 28 (by decide))]
  have u30 : nN (tkK K c b) 30 = va_up (nN K 30) b c := by rw [nN_e (oK 30 (by decide) (by decide) (by decide)), e3, nN_f (by decide), nN_f (by decide), nN_f (by decide), nN_f (by decide), nN_f (by decide), nN_sn (by omega), nN_f (by decide), nN_e (o1 30 (by decide))]
  have u31 : nN (tkK K c b) 31 = va_up (nN K 31) b c := by rw [nN_e (oK 31 (by decide) (by decide) (by decide)), e3, nN_f (by decide), nN_f (by decide), nN_f (by decide), nN_f (by decide), nN_f (by decide), nN_f (by decide), nN_sn (by omega), nN_e (o1 31 (by decide))]
  obtain ⟨⟨m19, m21, m22, m23, m24, m25⟩, lg, mpl, mN, mf⟩ := E
  have mo : ∀ (p : Nat → Bool), (∀ f, p f = true → f ≠ 19 ∧ f ≠ 21 ∧ f ≠ 22 ∧ f ≠ 23 ∧ f ≠ 24 ∧ f ≠ 25 ∧ f ≠ 46 ∧ f ≠ 47 ∧ ¬ (50 ≤ f ∧ f ≤ 53)) → ∀ f, p f = true → M' f = M f := fun p hp f hf => mf f (by
    have := hp f hf
    cases hq : tkF f
    · rfl
    · unfold tkF at hq; split at hq <;> first | omega | cases hq)
  have mo1 : ∀ f, tkF f = false → nN M' f = nN M f := fun f hf => nN_e (mf f hf)
  rw [eO, nI_clamp (by omega)]
  refine ⟨⟨NK, L3.cg elK, ?_, ?_, ?_, ?_, ?_, ?_, ?_, ?_, ?_, ?_⟩, by rw [lK 13 (by decide), tn 13 (by decide) (by decide) (by omega)], rfl, by rw [nN_e (oK 61 (by decide) (by decide) (by decide)), nN_e (o3 61 rfl)], by rw [oK 61 (by decide) (by decide) (by decide), o3 61 rfl]⟩
  · exact hR.a.cg (fun f hf => ko f (decide_eq_false (by have := of_decide_eq_true hf; omega))) (mo _ (fun f hf => by have := of_decide_eq_true hf; omega))
  · exact hR.s.cg a1 (fun f hf => ko f (decide_eq_false (by have := of_decide_eq_true hf; omega))) (mo _ (fun f hf => by have := of_decide_eq_true hf; omega))
  · exact hR.d.wk u16 (fun f f1 f2 => ko f (decide_eq_false (by omega))) m19 (fun f hf hne => mf f (by
      have := of_decide_eq_true hf
      cases hq : tkF f
      · rfl
      · unfold tkF at hq; split at hq <;> first | omega | cases hq)) h9 ho
  · refine hR.w.wk (t := b) hI (fun f u f1 f2 hu => ?_) (fun u hu hun => ⟨nN_e (ko _ (decide_eq_false (by omega))), nN_e (ko _ (decide_eq_false (by omega)))⟩) (fun f u hf hu => ?_) (fun u j hu hj => ⟨by rw [mo1 28 rfl], by rw [mo1 31 rfl]⟩) (fun _ _ _ => ?_)
    · have hc : f = 24 ∨ f = 25 ∨ f = 26 ∨ f = 27 ∨ f = 28 ∨ f = 29 ∨ f = 30 ∨ f = 31 ∨ f = 32 := by omega
      rcases hc with rfl | rfl | rfl | rfl | rfl | rfl | rfl | rfl | rfl
      · rw [nN_e (ko 24 rfl)]
      · rw [u25, vu_n hu]
      · rw [u26, vu_n hu]
      · rw [u27, vu_n hu]
      · rw [u28, vu_n hu]
      · rw [nN_e (ko 29 rfl)]
      · rw [u30, vu_n hu]
      · rw [u31, vu_n hu]
      · rw [nN_e (ko 32 rfl)]
    · have hc : f = 2 ∨ f = 8 ∨ f = 19 ∨ f = 20 ∨ f = 21 ∨ f = 22 ∨ f = 23 ∨ f = 24 ∨ f = 25 ∨ f = 26 ∨ f = 27 := by omega
      rcases hc with rfl | rfl | rfl | rfl | rfl | rfl | rfl | rfl | rfl | rfl | rfl
      · rw [mo1 2 rfl]
      · rw [mo1 8 rfl]
      · rw [m19, vu_n hu]
      · rw [mo1 20 rfl]
      · rw [m21, vu_n hu]
      · rw [m22, vu_n hu]
      · rw [m23, vu_n hu]
      · rw [m24, vu_n hu]
      · rw [m25, vu_n hu]
      · rw [mo1 26 rfl]
      · rw [mo1 27 rfl]
    · obtain ⟨⟨q1, q2, q3, q4, q5⟩, q6, q7, q8⟩ := rw9
      unfold qW1
      rw [u26, u27, nN_e (ko 29 rfl), u30, nN_e (ko 32 rfl), u31, nN_e (ko 24 rfl), u25, u28, nN_e (ko (2000 + b) (decide_eq_false (by omega))), nN_e (ko (3000 + b) (decide_eq_false (by omega))), m22, m21, mo1 26 rfl, m25, mo1 27 rfl, mo1 8 rfl, m19, mo1 20 rfl, m23, m24, mo1 28 rfl, mo1 31 rfl, vu_s, vu_s, vu_s, vu_s, vu_s, vu_s, vu_s, vu_s, vu_s, vu_s, vu_s, vu_s]
      refine ⟨⟨rfl, rfl, q3, rfl, q5⟩, by rw [if_pos ⟨ho, Or.inl rfl⟩], fun _ => ⟨fun z => by omega, fun _ => ⟨hO.symm, ?_⟩, fun z => by omega⟩, q8⟩
      by_cases z : nN M 2 b = 11
      · rw [if_pos z]; exact ⟨fun _ => rfl, fun _ => by decide⟩
      · rw [if_neg z]; exact ⟨fun c => absurd rfl c, fun c => by omega⟩
  · exact hR.f.cg (fun f hf => ko f (decide_eq_false (by have := of_decide_eq_true hf; omega))) (mo _ (fun f hf => by have := of_decide_eq_true hf; omega))
  · obtain ⟨p1, p2, p3⟩ := hR.p
    refine ⟨fun c' h1 h2 => ⟨?_, ?_⟩, fun u => ?_, fun c' h1 h2 => ?_⟩
    · rw [lK c' (by omega), mpl c' h2]
      by_cases z : c' = c
      · subst z; rw [if_pos rfl, tc, (p1 c' h1 h2).1]
      · rw [if_neg z, tn c' (by omega) (by omega) z, (p1 c' h1 h2).1]
    · rw [nN_e (ko 60 rfl)]; exact (p1 c' h1 h2).2
    · rw [lK 0 (by decide), t0, (hR.la 0 (by decide)).2.1.mem_erase_iff, p2 u, mo1 2 rfl, mo1 8 rfl, m19]
      by_cases hu : u = b
      · subst hu; rw [vu_s]; exact ⟨fun z => absurd rfl z.1, fun z => by omega⟩
      · rw [vu_n hu]; exact ⟨fun z => z.2, fun z => ⟨hu, z⟩⟩
    · rw [ko 61 rfl, ko 62 rfl, mf 48 rfl, mf 49 rfl]; exact p3 c' h1 h2
  · exact hR.l.cg (fun f hf => ko f (decide_eq_false (by have := of_decide_eq_true hf; omega))) (mo _ (fun f hf => by have := of_decide_eq_true hf; omega))
  · obtain ⟨q1, q2, q3, q4⟩ := jE
    rw [g80] at q1 q2 q3 q4
    rw [g82] at q3
    exact hR.j.lg (v := nN M 0 0) ⟨q1, q2, q3, q4⟩ lg rfl
  · refine hR.g.wk (t := b) hI (fun v z => mrk_mk v z) (mf 14 rfl) (fun f u hf hu => ?_) (by rw [mo1 2 rfl]) (by rw [mo1 8 rfl]) (by rw [mo1 32 rfl]) (fun u j _ _ => by rw [mo1 28 rfl]) (fun _ _ _ _ => ?_)
    · rcases hf with rfl | rfl | rfl | rfl | rfl | rfl
      · rw [mo1 2 rfl]
      · rw [mo1 8 rfl]
      · rw [m19, vu_n hu]
      · rw [m23, vu_n hu]
      · rw [mo1 27 rfl]
      · rw [mo1 32 rfl]
    · rw [m19, vu_s, m23, vu_s, hO]
      exact ⟨fun _ z => mrk_s z, fun z => by omega⟩
  · exact (hR.hh.cg (mf 3 rfl) (mf 4 rfl)).mrk
end TKRS
