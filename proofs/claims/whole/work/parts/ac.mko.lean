/-! each making of a stage that is no work -/
section MKOS
variable {n k F w x y d wn : Nat} {K K1 K2 K' : MS} {L L1 L' : KL} {M M1 M' : MS} {t h c b : Nat} {so kd v7 v18 v19 v20 v29 v30 v32 : Nat} {am : Int32} {ls : List Nat}
theorem beg_ok (n form kind : Nat) (am : Int32) (hn : n + 1 < 2 ^ 31) (hf : form < 2 ^ 31) (hk : kind < 2 ^ 31) : SgN (beg n (nI form) (nI kind) am) := by
  unfold beg stS
  have q := fun (v : Nat) (hv : v < 2 ^ 31) => nI_cl hv
  have h1 := SgN.z.up (i := 6) (Or.inr (Or.inr (Or.inr (q 0 (by decide)))))
  have h2 := h1.up (i := 7) (v := nI 0) (Or.inr (Or.inl rfl))
  have h3 := h2.up (i := 9) (Or.inr (Or.inr (Or.inr (q 0 (by decide)))))
  have h4 := h3.up (i := 10) (Or.inr (Or.inr (Or.inr (q 0 (by decide)))))
  have h5 := h4.up (i := 11) (v := -1) (Or.inr (Or.inr (Or.inl rfl)))
  have h6 := h5.up (i := 12) (Or.inr (Or.inr (Or.inr (q 0 (by decide)))))
  have h7 := h6.up (i := 0) (Or.inr (Or.inr (Or.inr (q (n + 1) hn))))
  have h8 := h7.up (i := 1) (Or.inr (Or.inr (Or.inr (q form hf))))
  have h9 := h8.up (i := 3) (Or.inr (Or.inr (Or.inr (q kind hk))))
  exact h9.up (i := 4) (v := am) (Or.inl rfl)
theorem nwk_beg {form kind : Nat} {am : Int32} (hR : Rel n k F K L M) (hI : Inv n k w 0 0 M) (hn : n + 1 ≤ 200) (hls : ∀ u ∈ ls, 1 ≤ u ∧ u ≤ n) (hnd : ls.Nodup) (hlen : ls.length ≤ 24) (hf : form < 2 ^ 31) (hk : kind < 2 ^ 31) : NwK n K (kepK (mkK K (n + 1) (beg n (nI form) (nI kind) am) ls) (n + 1)) 0 0 form kind 0 0 0 am ls [] ∧ Fx K (kepK (mkK K (n + 1) (beg n (nI form) (nI kind) am) ls) (n + 1)) :=
  nwk_kep (σ := beg n (nI form) (nI kind) am) hR hI hn hls hnd hlen (by decide) (beg_ok n form kind am (by omega) hf hk) rfl rfl hf rfl hk rfl rfl rfl rfl rfl rfl nI_0.symm (by decide) nI_0.symm nI_0.symm nI_0.symm nI_0.symm nI_0.symm nI_0.symm nI_0.symm (by decide)
theorem inK_kep (h : inK (kepK K2 (n + 1)) (n + 1) (n + 1)) : inK K2 (n + 1) (n + 1) := by
  have o : ∀ f j, f ≠ 22 → f ≠ 5 → f ≠ 0 → kepK K2 (n + 1) f j = K2 f j := fun f j h1 h2 h3 => kep_o h1 h2 h3
  have on : ∀ f j, f ≠ 22 → f ≠ 5 → f ≠ 0 → nN (kepK K2 (n + 1)) f j = nN K2 f j := fun f j h1 h2 h3 => by unfold nN; rw [o f j h1 h2 h3]
  unfold inK iK at *
  rw [on 12 _ (by decide) (by decide) (by decide), o 12 _ (by decide) (by decide) (by decide)] at h
  refine ⟨h.1, h.2.1, fun j hj => ?_⟩
  have q := h.2.2 j hj
  rw [on _ j (by omega) (by omega) (by omega), o _ j (by omega) (by omega) (by omega)] at q
  exact q
/-- what an opening promises -/
def OpS (n k w wn : Nat) (K2 : MS) (F2 : Nat) (L2 : KL) (R : MS) : Prop := OpOk n K2 F2 L2 (IKw (n + 1) k w wn) (opnS (n + 1) K2 F2) ∧ Rst (n + 1) k w (opnS (n + 1) K2 F2).2 (opnS (n + 1) K2 F2).1 L2 R ∧ FX wn (opnS (n + 1) K2 F2).1 (opnS (n + 1) K2 F2).2
/-- all that a making of a stage that is no work does -/
theorem mk_open {form : Nat} {am' : Int32} (hS : Rst n k w F K L M) (hX : FX wn K F) (hn : n + 1 ≤ 200) (E : NwM n M M1 so kd v7 v18 v19 v20 v29 v30 v32 am ls) (hI' : Inv (n + 1) k w 0 0 M1) (hso : so < 9) (hls : ∀ u ∈ ls, 1 ≤ u ∧ u ≤ n) (hnd : ls.Nodup) (hlen : ls.length ≤ 24) (hf : form = fm so) (hkd : kd ≤ 15) (ham : am' = if so = 5 then nI v7 else if so = 8 then nI v32 else am)
    (hL : ∀ v, mkB L v = true → mkB L1 v = true) (hH : ∀ u v, hgB L1 u v = hgB L u v) (h32 : so = 8 → v32 ≤ 10000 → mkB L1 v32 = true) :
    OpS n k w wn (mkK K (n + 1) (beg n (nI form) (nI kd) am') ls) F (upLt L1 (n + 1) (hgN L1 (n + 1) ls)) (bgnM (n + 1) M1 (n + 1)) ∧ BgP (n + 1) (M1 3) (M1 4) (IR (n + 1) k w 0 (M1 3) (M1 4)) M1 (n + 1) := by
  have hR := hS.1
  have hI := hS.2.1
  have hfb : form < 2 ^ 31 := by rw [hf]; unfold fm; split; decide; split <;> omega
  obtain ⟨C, fx⟩ := nwk_beg (K := K) (am := am') hR hI hn hls hnd hlen hfb (show kd < 2 ^ 31 by omega)
  have C' := C
  rw [hf] at C'
  have hst : (0 : Nat) = stt so 0 v19 := by unfold stt; rw [if_pos rfl, if_pos hso]
  have hrd : ([] : List Nat) = if 9 ≤ so ∧ v19 = 1 then [n + 1] else [] := by rw [if_neg (fun z => by omega)]
  have R1 := hR.new (L' := upLt L1 (n + 1) (hgN L1 (n + 1) ls)) hI hI' hn E C' hst ham (fun q => by omega) hrd (fun v hv => by rw [upLt_mk]; exact hL v hv) (fun u v hu => by rw [upLt_B hu]; exact hH u v) (fun v hv => by
    rw [hgN_B hn hv]
    constructor
    · rintro (q | ⟨s, s1, s2⟩)
      · exact Or.inl q
      · exact Or.inr ⟨s, s1, by rw [← hH]; exact s2⟩
    · rintro (q | ⟨s, s1, s2⟩)
      · exact Or.inl q
      · exact Or.inr ⟨s, s1, by rw [hH]; exact s2⟩) (fun a b => by rw [upLt_mk]; exact h32 a b)
  rw [← hf] at R1
  have P1 := Pre.of hS (hX.ot fx) R1 hI' E C
  have h8 : nN M1 8 (n + 1) = 0 := by rw [nN_e (E.2.2.2.2 8 rfl)]; exact (hI.zz (n + 1) (Or.inr (by omega)) hn).1.2.2.1
  have h2 : nN M1 2 (n + 1) < 9 := by rw [E.1.2.2.1, vu_s]; exact hso
  obtain ⟨r1, r2, r3, r4, r5⟩ := open_sim P1 (by omega) h8 h2 rfl
  refine ⟨⟨⟨ik_En, inK_kep (R1.inp hI' (by omega) (Nat.le_refl _)).1, r3, r4, rfl, ?_⟩, r1, r2⟩, r5⟩
  rw [r1.1.nt 10 _ rfl, (r1.1.s (n + 1) (by omega) (Nat.le_refl _)).1]
/-- what the class and the reference know of the number of stages -/
theorem Rst.n0 (hS : Rst n k w F K L M) : K 0 0 = nI n ∧ M 1 0 = nI n ∧ n ≤ 200 ∧ (n + 1 ≤ 200 → M 4 (n + 1) = nI 0) ∧ mdK K n n ∧ K 2 0 = nI w ∧ M 0 0 = nI w ∧ w ≤ 10000 := by
  obtain ⟨a1, a2, a3, a4, a5, a6, a7⟩ := hS.2.1.a
  refine ⟨by rw [hS.1.nt 0 0 rfl, hS.1.a.1], by rw [hS.2.1.nt 1 0 rfl, a5], a1, fun hn => ?_, hS.1.md hS.2.1, by rw [hS.1.nt 2 0 rfl, hS.1.a.2.2.1, a7], by rw [hS.2.1.nt 0 0 rfl, a7], a4⟩
  rw [hS.2.1.nt 4 _ rfl, (hS.2.1.zz (n + 1) (Or.inr (by omega)) hn).1.1]
theorem ful1 (hn : n < 200) : fulB n 1 = false := decide_eq_false (by omega)
theorem ful2 (hn : n = 200) : fulB n 1 = true := decide_eq_true (by omega)
/-- a number between bounds -/
theorem nI_btw {v : Int32} {a b : Nat} (ha : a < 2 ^ 31) (hb : b < 2 ^ 31) (h : nI a ≤ v ∧ v ≤ nI b) : ∃ u, v = nI u ∧ a ≤ u ∧ u ≤ b := by
  have hn : ¬ v < 0 := fun z => by
    have h1 := h.1
    rw [Int32.le_iff_toInt_le, nI_toInt ha] at h1
    rw [Int32.lt_iff_toInt_lt] at z
    have : (0 : Int32).toInt = 0 := by decide
    omega
  obtain ⟨u, hu, rfl⟩ := nI_of hn
  exact ⟨u, rfl, (nI_leI ha hu).mp h.1, (nI_leI hu hb).mp h.2⟩
theorem Inv.fr (hI : Inv n k w x y M) (hn : n + 1 ≤ 200) : nN M 4 (n + 1) = 0 ∧ nN M 7 (n + 1) = 0 ∧ nN M 29 (n + 1) = 0 ∧ nN M 30 (n + 1) = 0 := by
  obtain ⟨⟨z1, z2, z3, z4, z5, z6, z7, z8⟩, y1, y2, y3, y4, y5, y6, y7⟩ := hI.zz (n + 1) (Or.inr (by omega)) hn
  exact ⟨z1, z2, y4, y5⟩
/-- what a making promises -/
def MkS (n k w wn F : Nat) (K : MS) (Lf : KL) (P : Prop) (C : Int32) (MM M : MS) (K2 : MS) (F2 : Nat) (L2 : KL) : Prop := (P → n < 200 → OpS n k w wn K2 F2 L2 MM ∧ C = nI (n + 1)) ∧ (¬ P → C = -1 ∧ MM = M) ∧ (P → n = 200 → C = -2 ∧ Rst n k w F K Lf MM)
theorem mk_step {P : Prop} {B : Bool} {C : Int32} {MM R : MS} {F2 : Nat} {L2 Lf : KL} (hPB : P ↔ B = true) (hC : C = if B = true then (if fulB n 1 = true then -2 else nI (n + 1)) else -1) (hM : MM = if B = true then (if fulB n 1 = true then M else R) else M) (key : P → n < 200 → OpS n k w wn K2 F2 L2 R) (hf : Rst n k w F K Lf M) : MkS n k w wn F K Lf P C MM M K2 F2 L2 := by
  subst hC hM
  refine ⟨fun hP hn => ?_, fun hP => ?_, fun hP hn => ?_⟩
  · rw [if_pos (hPB.mp hP), if_neg (by rw [ful1 hn]; decide), if_pos (hPB.mp hP), if_neg (by rw [ful1 hn]; decide)]
    exact ⟨key hP hn, rfl⟩
  · rw [if_neg (fun z => hP (hPB.mpr z)), if_neg (fun z => hP (hPB.mpr z))]
    exact ⟨rfl, rfl⟩
  · rw [if_pos (hPB.mp hP), if_pos (ful2 hn), if_pos (hPB.mp hP), if_pos (ful2 hn)]
    exact ⟨rfl, hf⟩
theorem ful_lt (h : fulB n 1 = false) : n < 200 := by have := of_decide_eq_false h; omega
abbrev BgX (n k w : Nat) (A : MS) : Prop := BgP n (A 3) (A 4) (IR n k w 0 (A 3) (A 4)) A n
theorem thn_step (hS : Rst n k w F K L M) (hX : FX wn K F) (v z a : Int32) : MkS n k w wn F K L (thnP K v z) (thnC n M v z a) (thnM n M v z a) M (mkK K (n + 1) (beg n (nI 5) z a) [v.toNatClampNeg]) F (upLt L (n + 1) (hgN L (n + 1) [v.toNatClampNeg])) ∧ (thnB M v z a = true → fulB n 1 = false → BgX (n + 1) k w (thnA n M v z a)) := by
  obtain ⟨e0, e1, a1, e4, md, e2, em, hw⟩ := hS.n0
  have hI := hS.2.1
  have hPB : thnP K v z ↔ thnB M v z a = true := by unfold thnP thnB; rw [e0, e1, decide_eq_true_iff]
  have key : thnP K v z → n < 200 → OpS n k w wn (mkK K (n + 1) (beg n (nI 5) z a) [v.toNatClampNeg]) F (upLt L (n + 1) (hgN L (n + 1) [v.toNatClampNeg])) (bgnM (n + 1) (thnA n M v z a) (n + 1)) ∧ BgX (n + 1) k w (thnA n M v z a) := fun hP hn => by
    unfold thnP at hP
    rw [e0] at hP
    obtain ⟨u, rfl, u1, u2⟩ := nI_btw (by decide) (by omega) hP.1
    obtain ⟨kd, rfl, -, k2⟩ := nI_btw (by decide) (by decide) hP.2
    obtain ⟨f1, f2, f3, f4⟩ := hI.fr (show n + 1 ≤ 200 by omega)
    have E := (mk_E (n := n) (so := 1) (kd := kd) (am := a) hI.nt (by omega) f1 (by decide) (by omega)).nw.tk (u := u) (by omega) (by decide)
    rw [show (if u ∈ ([] : List Nat) then [] else [] ++ [u]) = [u] by simp] at E
    rw [nI_clamp (by omega)]
    have hls : ∀ s ∈ [u], 1 ≤ s ∧ s ≤ n := fun s hs => by have := List.mem_singleton.mp hs; omega
    have I1 := E.inv hI (by omega) (by decide) (show 1 ≤ 24 by decide) (by unfold shp; simp) hls (by simp) ⟨by omega, fun _ => by omega⟩ ⟨by omega, fun q => by omega, fun q => by omega⟩ (fun q => by omega) ⟨by omega, fun _ => f3⟩ (by omega) (fun q => by omega)
    exact mk_open (L1 := L) (form := 5) (am' := a) hS hX (by omega) E I1 (by decide) hls (by simp) (show 1 ≤ 24 by decide) rfl (by omega) (by rw [if_neg (by decide), if_neg (by decide)]) (fun _ h => h) (fun _ _ => rfl) (fun q => by omega)
  exact ⟨mk_step hPB rfl rfl (fun a b => (key a b).1) hS, fun a b => (key (hPB.mpr a) (ful_lt b)).2⟩
end MKOS
