/-! groups, and stages that are over as soon as they are made -/
section MKQS
variable {n k F w x y d wn : Nat} {K K1 K2 K' : MS} {L L1 L' : KL} {M M1 M' : MS} {t h c b : Nat} {so kd v7 v18 v19 v20 v29 v30 v32 : Nat} {am : Int32} {ls : List Nat}
theorem grp_neg : ∀ n, n < 24 → ∀ b, b < 25 → n < b → nI n - nI b + nI 1 ≤ nI 0 := by decide +kernel
theorem grp_iff {n a b : Nat} (hn : n ≤ 200) (ha : 1 ≤ a ∧ a ≤ n) (hb : 1 ≤ b ∧ b ≤ 24) : (nI a ≤ nI n - nI b + nI 1 ↔ a + b ≤ n + 1) ∧ (nI a + nI b - nI 1 = nI (a + b - 1)) := by
  refine ⟨?_, by rw [nI_add, nI_subN (by omega)]⟩
  by_cases c : b ≤ n
  · rw [nI_subN c, nI_add, nI_leI (by omega) (by omega)]; omega
  · have q := grp_neg n (by omega) b (by omega) (by omega)
    constructor
    · intro z
      have := Int32.le_trans z q
      rw [nI_leI (by omega) (by decide)] at this; omega
    · intro z; omega
theorem ig_iff (hn : n ≤ 200) (e0 : K 0 0 = nI n) (e1 : M 1 0 = nI n) (v q : Int32) : igB K v q = true ↔ ((nI 1 ≤ q ∧ q ≤ nI 24) ∧ (nI 1 ≤ v ∧ v ≤ M 1 0) ∧ v ≤ M 1 0 - q + nI 1) := by
  unfold igB
  rw [decide_eq_true_iff, e0, e1]
  constructor
  · rintro ⟨h1, h2, h3, h4⟩
    obtain ⟨b, rfl, b1, b2⟩ := nI_btw (by decide) (by decide) h1
    obtain ⟨a, rfl, a1, a2⟩ := nI_btw (by decide) (by omega) h2
    obtain ⟨g1, g2⟩ := grp_iff hn ⟨a1, a2⟩ ⟨b1, b2⟩
    rw [g2, nI_leI (by omega) (by omega)] at h4
    exact ⟨h1, h2, g1.mpr (by omega)⟩
  · rintro ⟨h1, h2, h3⟩
    obtain ⟨b, rfl, b1, b2⟩ := nI_btw (by decide) (by decide) h1
    obtain ⟨a, rfl, a1, a2⟩ := nI_btw (by decide) (by omega) h2
    obtain ⟨g1, g2⟩ := grp_iff hn ⟨a1, a2⟩ ⟨b1, b2⟩
    have := g1.mp h3
    rw [g2]
    exact ⟨h1, h2, (nI_leI (by decide) (by omega)).mpr (by omega), (nI_leI (by omega) (by omega)).mpr (by omega)⟩
theorem grp_ok {fr ct : Nat} (h1 : 1 ≤ fr) (h2 : fr + ct ≤ n + 1) : (∀ s ∈ grp fr ct, 1 ≤ s ∧ s ≤ n) ∧ (grp fr ct).Nodup ∧ (grp fr ct).length = ct := by
  unfold grp
  refine ⟨fun s hs => ?_, ?_, by rw [List.length_map, List.length_range]⟩
  · obtain ⟨j, j1, rfl⟩ := List.mem_map.mp hs
    have := List.mem_range.mp j1
    omega
  · rw [List.nodup_iff_pairwise_ne, List.pairwise_map]
    exact (List.nodup_iff_pairwise_ne.mp List.nodup_range).imp (fun hne z => hne (by omega))
theorem row_N {fr : Nat} (hfr : fr ≤ 200) : ∀ (ct j : Nat) (M1 : MS), NwM n M M1 so kd v7 v18 v19 v20 v29 v30 v32 am (grp fr j) → j + ct ≤ 24 → NwM n M (rowF (n + 1) fr ct j M1) so kd v7 v18 v19 v20 v29 v30 v32 am (grp fr (j + ct))
  | 0, j, M1, E, _ => E
  | ct + 1, j, M1, E, hb => by
    rw [rowF]
    have hl : (grp fr j).length = j := by unfold grp; rw [List.length_map, List.length_range]
    have E2 := E.tk (u := fr + j) (by omega) (by omega)
    have hni : fr + j ∉ grp fr j := fun z => by
      unfold grp at z
      obtain ⟨i, i1, i2⟩ := List.mem_map.mp z
      have := List.mem_range.mp i1
      omega
    have e : grp fr j ++ [fr + j] = grp fr (j + 1) := by unfold grp; rw [List.range_succ, List.map_append]; rfl
    rw [if_neg hni, e] at E2
    have r := row_N hfr ct (j + 1) _ E2 (by omega)
    rw [show j + 1 + ct = j + (ct + 1) by omega] at r
    exact r
theorem row_A {fr ct v7' so : Nat} (hI : Inv n k w 0 0 M) (hn : n + 1 ≤ 200) (hfr : fr ≤ 200) (hct : ct ≤ 24) (h7 : v7' < 2 ^ 31) (hso : so < 2 ^ 31) : NwM n M (rowA n M (nI so) (nI fr) (nI ct) (nI v7')) so 0 v7' (nN M 18 (n + 1)) (nN M 19 (n + 1)) (nN M 20 (n + 1)) (nN M 29 (n + 1)) (nN M 30 (n + 1)) (nN M 32 (n + 1)) (nI 0) (grp fr ct) := by
  unfold rowA
  rw [nI_clamp (by omega), nI_clamp (by omega)]
  have E := (mk_E (n := n) (so := so) (kd := 0) (am := nI 0) hI.nt hn (hI.fr hn).1 hso (by decide)).nw.u7 (v := v7') h7
  have r := row_N (fr := fr) hfr ct 0 _ (show NwM n M _ so 0 v7' _ _ _ _ _ _ (nI 0) (grp fr 0) from E) (by omega)
  rw [Nat.zero_add] at r
  exact r
theorem all_step (hS : Rst n k w F K L M) (hX : FX wn K F) (v q : Int32) : MkS n k w wn F K L (igB K v q = true) (rowC n M v q (nI 1)) (rowM n M (nI 4) v q (nI 1)) M (mkK K (n + 1) (beg n (nI 8) (nI 0) (nI 0)) (grp v.toNatClampNeg q.toNatClampNeg)) F (upLt L (n + 1) (hgN L (n + 1) (grp v.toNatClampNeg q.toNatClampNeg))) ∧ (rowB M v q (nI 1) = true → fulB n 1 = false → BgX (n + 1) k w (rowA n M (nI 4) v q (nI 1))) := by
  obtain ⟨e0, e1, a1, e4, md, e2, em, hw⟩ := hS.n0
  have hI := hS.2.1
  have hPB : igB K v q = true ↔ rowB M v q (nI 1) = true := by
    rw [ig_iff a1 e0 e1]
    unfold rowB
    rw [decide_eq_true_iff]
    exact ⟨fun ⟨z1, z2, z3⟩ => ⟨z1, ⟨(nI_leI (by decide) (by decide)).mpr (Nat.le_refl _), z1.1⟩, z2, z3⟩, fun ⟨z1, _, z2, z3⟩ => ⟨z1, z2, z3⟩⟩
  have key : igB K v q = true → n < 200 → OpS n k w wn (mkK K (n + 1) (beg n (nI 8) (nI 0) (nI 0)) (grp v.toNatClampNeg q.toNatClampNeg)) F (upLt L (n + 1) (hgN L (n + 1) (grp v.toNatClampNeg q.toNatClampNeg))) (bgnM (n + 1) (rowA n M (nI 4) v q (nI 1)) (n + 1)) ∧ BgX (n + 1) k w (rowA n M (nI 4) v q (nI 1)) := fun hP hn => by
    obtain ⟨h1, h2, h3⟩ := (ig_iff a1 e0 e1 v q).mp hP
    rw [e1] at h2 h3
    obtain ⟨ct, rfl, c1, c2⟩ := nI_btw (by decide) (by decide) h1
    obtain ⟨fr, rfl, f1, f2⟩ := nI_btw (by decide) (by omega) h2
    have g := (grp_iff a1 ⟨f1, f2⟩ ⟨c1, c2⟩).1.mp h3
    obtain ⟨z1, z2, z3, z4⟩ := hI.fr (show n + 1 ≤ 200 by omega)
    have E := row_A (fr := fr) (ct := ct) (v7' := 1) (so := 4) hI (by omega) (by omega) c2 (by decide) (by decide)
    rw [nI_clamp (show fr < 2 ^ 31 by omega), nI_clamp (show ct < 2 ^ 31 by omega)]
    obtain ⟨l1, l2, l3⟩ := grp_ok f1 g
    have I1 := E.inv hI (by omega) (by decide) (by omega) (by unfold shp; omega) l1 l2 ⟨by omega, fun _ => by omega⟩ ⟨by omega, fun q => by omega, fun q => by omega⟩ (fun q => by omega) ⟨by omega, fun _ => z3⟩ (by omega) (fun q => by omega)
    exact mk_open (L1 := L) (form := 8) (am' := nI 0) hS hX (by omega) E I1 (by decide) l1 l2 (by omega) rfl (by omega) (by rw [if_neg (by decide), if_neg (by decide)]) (fun _ h => h) (fun _ _ => rfl) (fun q => by omega)
  exact ⟨mk_step hPB rfl rfl (fun a b => (key a b).1) hS, fun a b => (key (hPB.mpr a) (ful_lt b)).2⟩
theorem any_step (hS : Rst n k w F K L M) (hX : FX wn K F) (v q z : Int32) : MkS n k w wn F K L (anyP K v q z) (rowC n M v q z) (rowM n M (nI 5) v q z) M (mkK K (n + 1) (beg n (nI 9) (nI 0) z) (grp v.toNatClampNeg q.toNatClampNeg)) F (upLt L (n + 1) (hgN L (n + 1) (grp v.toNatClampNeg q.toNatClampNeg))) ∧ (rowB M v q z = true → fulB n 1 = false → BgX (n + 1) k w (rowA n M (nI 5) v q z)) := by
  obtain ⟨e0, e1, a1, e4, md, e2, em, hw⟩ := hS.n0
  have hI := hS.2.1
  have hPB : anyP K v q z ↔ rowB M v q z = true := by
    unfold anyP
    rw [ig_iff a1 e0 e1]
    unfold rowB
    rw [decide_eq_true_iff]
    exact ⟨fun ⟨⟨z1, z2, z3⟩, z4⟩ => ⟨z1, z4, z2, z3⟩, fun ⟨z1, z4, z2, z3⟩ => ⟨⟨z1, z2, z3⟩, z4⟩⟩
  have key : anyP K v q z → n < 200 → OpS n k w wn (mkK K (n + 1) (beg n (nI 9) (nI 0) z) (grp v.toNatClampNeg q.toNatClampNeg)) F (upLt L (n + 1) (hgN L (n + 1) (grp v.toNatClampNeg q.toNatClampNeg))) (bgnM (n + 1) (rowA n M (nI 5) v q z) (n + 1)) ∧ BgX (n + 1) k w (rowA n M (nI 5) v q z) := fun hP hn => by
    obtain ⟨h1, h2, h3⟩ := (ig_iff a1 e0 e1 v q).mp hP.1
    have h5 := hP.2
    rw [e1] at h2 h3
    obtain ⟨ct, rfl, c1, c2⟩ := nI_btw (by decide) (by decide) h1
    obtain ⟨fr, rfl, f1, f2⟩ := nI_btw (by decide) (by omega) h2
    obtain ⟨m, rfl, m1, m2⟩ := nI_btw (by decide) (by omega) h5
    have g := (grp_iff a1 ⟨f1, f2⟩ ⟨c1, c2⟩).1.mp h3
    obtain ⟨z1, z2, z3, z4⟩ := hI.fr (show n + 1 ≤ 200 by omega)
    have E := row_A (fr := fr) (ct := ct) (v7' := m) (so := 5) hI (by omega) (by omega) c2 (by omega) (by decide)
    rw [nI_clamp (show fr < 2 ^ 31 by omega), nI_clamp (show ct < 2 ^ 31 by omega)]
    obtain ⟨l1, l2, l3⟩ := grp_ok f1 g
    have I1 := E.inv hI (by omega) (by decide) (by omega) (by unfold shp; omega) l1 l2 ⟨by omega, fun _ => by omega⟩ ⟨by omega, fun q => by omega, fun q => by omega⟩ (fun q => by omega) ⟨by omega, fun _ => z3⟩ (by omega) (fun q => by omega)
    exact mk_open (L1 := L) (form := 9) (am' := nI m) hS hX (by omega) E I1 (by decide) l1 l2 (by omega) rfl (by omega) (by rw [if_pos rfl]) (fun _ h => h) (fun _ _ => rfl) (fun q => by omega)
  exact ⟨mk_step hPB rfl rfl (fun a b => (key a b).1) hS, fun a b => (key (hPB.mpr a) (ful_lt b)).2⟩
end MKQS
