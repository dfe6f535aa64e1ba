/-! the other makings of stages that are no works -/
section MKPS
variable {n k F w x y d wn : Nat} {K K1 K2 K' : MS} {L L1 L' : KL} {M M1 M' : MS} {t h c b : Nat} {so kd v7 v18 v19 v20 v29 v30 v32 : Nat} {am : Int32} {ls : List Nat}
theorem in2_tk {u v : Nat} : (if v ∈ [u] then [u] else [u] ++ [v]) = in2 u v := by
  unfold in2
  by_cases c : u = v
  · rw [if_pos c, if_pos (List.mem_singleton.mpr c.symm)]
  · rw [if_neg c, if_neg (fun z => c (List.mem_singleton.mp z).symm)]; rfl
theorem in2_ok {u v : Nat} (h1 : 1 ≤ u ∧ u ≤ n) (h2 : 1 ≤ v ∧ v ≤ n) : (∀ s ∈ in2 u v, 1 ≤ s ∧ s ≤ n) ∧ (in2 u v).Nodup ∧ (1 ≤ (in2 u v).length ∧ (in2 u v).length ≤ 2) ∧ (in2 u v)[(in2 u v).length - 1]?.getD 0 = v := by
  unfold in2
  by_cases c : u = v
  · rw [if_pos c]
    refine ⟨fun s hs => ?_, by simp, by simp, ?_⟩
    · have := List.mem_singleton.mp hs; omega
    · subst c; rfl
  · rw [if_neg c]
    refine ⟨fun s hs => ?_, ?_, by simp, rfl⟩
    · rcases List.mem_cons.mp hs with e | e
      · omega
      · have := List.mem_singleton.mp e; omega
    · simp [c]
theorem mk2 {u v : Nat} (hI : Inv n k w 0 0 M) (hn : n + 1 ≤ 200) {so kd : Nat} (am : Int32) (hso : so < 2 ^ 31) (hkd : kd < 2 ^ 31) (hu : u < 2 ^ 31) (hv : v < 2 ^ 31) : NwM n M (takM (takM (madeM M n (nI so) (nI kd) am) (n + 1) (nI u)) (n + 1) (nI v)) so kd (nN M 7 (n + 1)) (nN M 18 (n + 1)) (nN M 19 (n + 1)) (nN M 20 (n + 1)) (nN M 29 (n + 1)) (nN M 30 (n + 1)) (nN M 32 (n + 1)) am (in2 u v) := by
  have E := (mk_E (n := n) (so := so) (kd := kd) (am := am) hI.nt hn (hI.fr hn).1 hso hkd).nw.tk (u := u) hu (by decide)
  rw [show (if u ∈ ([] : List Nat) then [] else [] ++ [u]) = [u] by simp] at E
  have E2 := E.tk (u := v) hv (show 1 < 24 by decide)
  rw [in2_tk] at E2
  exact E2
theorem bth_step (hS : Rst n k w F K L M) (hX : FX wn K F) (v u z : Int32) : MkS n k w wn F K L (bthP K v u z) (bthC n M v u z) (bthM n M v u z) M (mkK K (n + 1) (beg n (nI 6) z (nI 0)) (in2 v.toNatClampNeg u.toNatClampNeg)) F (upLt L (n + 1) (hgN L (n + 1) (in2 v.toNatClampNeg u.toNatClampNeg))) ∧ (bthB M v u z = true → fulB n 1 = false → BgX (n + 1) k w (bthA n M v u z)) := by
  obtain ⟨e0, e1, a1, e4, md, e2, em, hw⟩ := hS.n0
  have hI := hS.2.1
  have hPB : bthP K v u z ↔ bthB M v u z = true := by unfold bthP bthB; rw [e0, e1, decide_eq_true_iff]
  have key : bthP K v u z → n < 200 → OpS n k w wn (mkK K (n + 1) (beg n (nI 6) z (nI 0)) (in2 v.toNatClampNeg u.toNatClampNeg)) F (upLt L (n + 1) (hgN L (n + 1) (in2 v.toNatClampNeg u.toNatClampNeg))) (bgnM (n + 1) (bthA n M v u z) (n + 1)) ∧ BgX (n + 1) k w (bthA n M v u z) := fun hP hn => by
    unfold bthP at hP
    rw [e0] at hP
    obtain ⟨p, rfl, p1, p2⟩ := nI_btw (by decide) (by omega) hP.1
    obtain ⟨q, rfl, q1, q2⟩ := nI_btw (by decide) (by omega) hP.2.1
    obtain ⟨kd, rfl, -, k2⟩ := nI_btw (by decide) (by decide) hP.2.2
    obtain ⟨f1, f2, f3, f4⟩ := hI.fr (show n + 1 ≤ 200 by omega)
    have E := mk2 (u := p) (v := q) (so := 2) (kd := kd) hI (by omega) (nI 0) (by decide) (by omega) (by omega) (by omega)
    rw [nI_clamp (by omega), nI_clamp (by omega)]
    obtain ⟨l1, l2, l3, l4⟩ := in2_ok ⟨p1, p2⟩ ⟨q1, q2⟩
    have I1 := E.inv hI (by omega) (by decide) (by omega) (by unfold shp; omega) l1 l2 ⟨by omega, fun _ => by omega⟩ ⟨by omega, fun q => by omega, fun q => by omega⟩ (fun q => by omega) ⟨by omega, fun _ => f3⟩ (by omega) (fun q => by omega)
    exact mk_open (L1 := L) (form := 6) (am' := nI 0) hS hX (by omega) E I1 (by decide) l1 l2 (by omega) rfl (by omega) (by rw [if_neg (by decide), if_neg (by decide)]) (fun _ h => h) (fun _ _ => rfl) (fun q => by omega)
  exact ⟨mk_step hPB rfl rfl (fun a b => (key a b).1) hS, fun a b => (key (hPB.mpr a) (ful_lt b)).2⟩
theorem frs_step (hS : Rst n k w F K L M) (hX : FX wn K F) (v u : Int32) : MkS n k w wn F K L (frsP K v u) (frsC n M v u) (frsM n M v u) M (mkK K (n + 1) (beg n (nI 7) (nI 0) (nI 0)) (in2 v.toNatClampNeg u.toNatClampNeg)) F (upLt L (n + 1) (hgN L (n + 1) (in2 v.toNatClampNeg u.toNatClampNeg))) ∧ (frsB M v u = true → fulB n 1 = false → BgX (n + 1) k w (frsA n M v u)) := by
  obtain ⟨e0, e1, a1, e4, md, e2, em, hw⟩ := hS.n0
  have hI := hS.2.1
  have hPB : frsP K v u ↔ frsB M v u = true := by unfold frsP frsB; rw [e0, e1, decide_eq_true_iff]
  have key : frsP K v u → n < 200 → OpS n k w wn (mkK K (n + 1) (beg n (nI 7) (nI 0) (nI 0)) (in2 v.toNatClampNeg u.toNatClampNeg)) F (upLt L (n + 1) (hgN L (n + 1) (in2 v.toNatClampNeg u.toNatClampNeg))) (bgnM (n + 1) (frsA n M v u) (n + 1)) ∧ BgX (n + 1) k w (frsA n M v u) := fun hP hn => by
    unfold frsP at hP
    rw [e0] at hP
    obtain ⟨p, rfl, p1, p2⟩ := nI_btw (by decide) (by omega) hP.1
    obtain ⟨q, rfl, q1, q2⟩ := nI_btw (by decide) (by omega) hP.2
    obtain ⟨f1, f2, f3, f4⟩ := hI.fr (show n + 1 ≤ 200 by omega)
    have E := mk2 (u := p) (v := q) (so := 3) (kd := 0) hI (by omega) (nI 0) (by decide) (by decide) (by omega) (by omega)
    rw [nI_clamp (by omega), nI_clamp (by omega)]
    obtain ⟨l1, l2, l3, l4⟩ := in2_ok ⟨p1, p2⟩ ⟨q1, q2⟩
    have I1 := E.inv hI (by omega) (by decide) (by omega) (by unfold shp; omega) l1 l2 ⟨by omega, fun _ => by omega⟩ ⟨by omega, fun q => by omega, fun q => by omega⟩ (fun q => by omega) ⟨by omega, fun _ => f3⟩ (by omega) (fun q => by omega)
    exact mk_open (L1 := L) (form := 7) (am' := nI 0) hS hX (by omega) E I1 (by decide) l1 l2 (by omega) rfl (by omega) (by rw [if_neg (by decide), if_neg (by decide)]) (fun _ h => h) (fun _ _ => rfl) (fun q => by omega)
  exact ⟨mk_step hPB rfl rfl (fun a b => (key a b).1) hS, fun a b => (key (hPB.mpr a) (ful_lt b)).2⟩
theorem mof_step (hS : Rst n k w F K L M) (hX : FX wn K F) (v z u : Int32) : MkS n k w wn F K L (mofP K v z u) (mofC n M v z u) (mofM n M v z u) M (mkK K (n + 1) (beg n (nI 10) z (nI 0)) (in2 v.toNatClampNeg u.toNatClampNeg)) F (upLt L (n + 1) (hgN L (n + 1) (in2 v.toNatClampNeg u.toNatClampNeg))) ∧ (mofB M v z u = true → fulB n 1 = false → BgX (n + 1) k w (mofA n M v z u)) := by
  obtain ⟨e0, e1, a1, e4, md, e2, em, hw⟩ := hS.n0
  have hI := hS.2.1
  have hPB : mofP K v z u ↔ mofB M v z u = true := by
    unfold mofP mofB; rw [e0, e1, decide_eq_true_iff]
    exact ⟨fun q => ⟨q.1, q.2.2, q.2.1⟩, fun q => ⟨q.1, q.2.2, q.2.1⟩⟩
  have key : mofP K v z u → n < 200 → OpS n k w wn (mkK K (n + 1) (beg n (nI 10) z (nI 0)) (in2 v.toNatClampNeg u.toNatClampNeg)) F (upLt L (n + 1) (hgN L (n + 1) (in2 v.toNatClampNeg u.toNatClampNeg))) (bgnM (n + 1) (mofA n M v z u) (n + 1)) ∧ BgX (n + 1) k w (mofA n M v z u) := fun hP hn => by
    unfold mofP at hP
    rw [e0] at hP
    obtain ⟨p, rfl, p1, p2⟩ := nI_btw (by decide) (by omega) hP.1
    obtain ⟨q, rfl, q1, q2⟩ := nI_btw (by decide) (by omega) hP.2.1
    obtain ⟨kd, rfl, -, k2⟩ := nI_btw (by decide) (by decide) hP.2.2
    obtain ⟨f1, f2, f3, f4⟩ := hI.fr (show n + 1 ≤ 200 by omega)
    have E := (mk2 (u := p) (v := q) (so := 6) (kd := kd) hI (by omega) (nI 0) (by decide) (by omega) (by omega) (by omega)).u7 (v := q) (by omega)
    rw [nI_clamp (by omega), nI_clamp (by omega)]
    obtain ⟨l1, l2, l3, l4⟩ := in2_ok ⟨p1, p2⟩ ⟨q1, q2⟩
    have I1 := E.inv hI (by omega) (by decide) (by omega) (by unfold shp; omega) l1 l2 ⟨by omega, fun _ => by omega⟩ ⟨by omega, fun q => by omega, fun _ => l4.symm⟩ (fun q => by omega) ⟨by omega, fun _ => f3⟩ (by omega) (fun q => by omega)
    exact mk_open (L1 := L) (form := 10) (am' := nI 0) hS hX (by omega) E I1 (by decide) l1 l2 (by omega) rfl (by omega) (by rw [if_neg (by decide), if_neg (by decide)]) (fun _ h => h) (fun _ _ => rfl) (fun q => by omega)
  exact ⟨mk_step hPB rfl rfl (fun a b => (key a b).1) hS, fun a b => (key (hPB.mpr a) (ful_lt b)).2⟩
/-- a mark more -/
theorem Rst.mrk (hS : Rst n k w F K L M) (v : Nat) : Rst n k w F K (mrkL L v) M := by
  obtain ⟨⟨r1, r2, r3, r4, r5, r6, r7, r8, r9, r10, r11, r12⟩, hI, hN, h13, h17, hQ⟩ := hS
  refine ⟨⟨r1, r2, r3, r4, r5, r6, r7, r8, r9, r10, fun u h1 h2 h3 => ?_, r12.mrk⟩, hI, hN, h13, h17, hQ⟩
  obtain ⟨g1, g2, g3⟩ := r11 u h1 h2 h3
  exact ⟨fun v hv q => mrk_mk _ (g1 v hv q), fun p q => mrk_mk _ (g2 p q), fun p => ⟨fun a b => mrk_mk _ ((g3 p).1 a b), fun a b => mrk_mk _ ((g3 p).2 a b)⟩⟩
theorem lim_step (hS : Rst n k w F K L M) (hX : FX wn K F) (v z : Int32) : MkS n k w wn F K (mrkL L (K 2 0 + z).toNatClampNeg) (limP K v z) (limC n M v z) (limM n M v z) M (mkK K (n + 1) (beg n (nI 12) (nI 0) (K 2 0 + z)) [v.toNatClampNeg]) F (upLt (mrkL L (K 2 0 + z).toNatClampNeg) (n + 1) (hgN (mrkL L (K 2 0 + z).toNatClampNeg) (n + 1) [v.toNatClampNeg])) ∧ (limB M v z = true → fulB n 1 = false → BgX (n + 1) k w (limA n M v z)) := by
  obtain ⟨e0, e1, a1, e4, md, e2, em, hw⟩ := hS.n0
  have hI := hS.2.1
  have hPB : limP K v z ↔ limB M v z = true := by unfold limP limB; rw [e0, e1, decide_eq_true_iff]
  have key : limP K v z → n < 200 → OpS n k w wn (mkK K (n + 1) (beg n (nI 12) (nI 0) (K 2 0 + z)) [v.toNatClampNeg]) F (upLt (mrkL L (K 2 0 + z).toNatClampNeg) (n + 1) (hgN (mrkL L (K 2 0 + z).toNatClampNeg) (n + 1) [v.toNatClampNeg])) (bgnM (n + 1) (limA n M v z) (n + 1)) ∧ BgX (n + 1) k w (limA n M v z) := fun hP hn => by
    unfold limP at hP
    rw [e0] at hP
    obtain ⟨p, rfl, p1, p2⟩ := nI_btw (by decide) (by omega) hP.1
    obtain ⟨q, rfl, q1, q2⟩ := nI_btw (by decide) (by decide) hP.2
    obtain ⟨f1, f2, f3, f4⟩ := hI.fr (show n + 1 ≤ 200 by omega)
    have E := (mk_E (n := n) (so := 8) (kd := 0) (am := nI 0) hI.nt (by omega) f1 (by decide) (by decide)).nw.tk (u := p) (by omega) (by decide)
    rw [show (if p ∈ ([] : List Nat) then [] else [] ++ [p]) = [p] by simp] at E
    have et0 : takM (madeM M n (nI 8) (nI 0) (nI 0)) (n + 1) (nI p) 0 0 = nI w := by
      rw [E.2.2.2.2 0 rfl]; exact em
    have E2 := E.u32 (v := w + q) (by omega)
    have eA : limA n M (nI p) (nI q) = up2 (takM (madeM M n (nI 8) (nI 0) (nI 0)) (n + 1) (nI p)) 32 (n + 1) (nI (w + q)) := by
      unfold limA; rw [et0, nI_add]
    rw [eA, e2, nI_add, nI_clamp (show p < 2 ^ 31 by omega), nI_clamp (show w + q < 2 ^ 31 by omega)]
    have hls : ∀ s ∈ [p], 1 ≤ s ∧ s ≤ n := fun s hs => by have := List.mem_singleton.mp hs; omega
    have I1 := E2.inv hI (by omega) (by decide) (show 1 ≤ 24 by decide) (by unfold shp; simp) hls (by simp) ⟨by omega, fun _ => by omega⟩ ⟨by omega, fun q => by omega, fun q => by omega⟩ (fun q => by omega) ⟨by omega, fun _ => f3⟩ (by omega) (fun q => by omega)
    exact mk_open (L1 := mrkL L (w + q)) (form := 12) (am' := nI (w + q)) hS hX (by omega) E2 I1 (by decide) hls (by simp) (show 1 ≤ 24 by decide) rfl (by omega) (by rw [if_neg (by decide), if_pos rfl]) (fun _ h => mrk_mk _ h) (fun _ _ => mrk_hg) (fun _ h => mrk_s h)
  exact ⟨mk_step hPB rfl rfl (fun a b => (key a b).1) (hS.mrk _), fun a b => (key (hPB.mpr a) (ful_lt b)).2⟩
end MKPS
