/-! a new stage is opened, on both sides -/
section OPNS
variable {n k F w x y d wn : Nat} {K K1 K2 K' : MS} {L L' : KL} {M M1 M' : MS} {t h c b : Nat}
/-- at rest but for the newest stage, which nobody has asked yet -/
def Pre (n k w wn F : Nat) (K : MS) (L : KL) (M : MS) : Prop := Rel n k F K L M ∧ Inv n k w 0 0 M ∧ Nd n M ∧ lsL K 13 = [] ∧ nN M 17 0 = nN M 16 0 ∧ (∀ u, 1 ≤ u → u < n → Qu K u) ∧ FX wn K F
theorem Qu.nw {u : Nat} (hR : Rel n k F K L M) (hI : Inv n k w x y M) (h1 : 1 ≤ u) (h2 : u ≤ n) (c5 : ∀ f v, 10 ≤ f → f < 36 → f ≠ 22 → v ≤ n → K' f v = K f v) (c7 : K' (1000 + u) = K (1000 + u)) (c50 : K' 50 = K 50) (hq : Qu K u) : Qu K' u := by
  have ib := hR.inp hI h1 h2
  have e11 := c5 11 u (by decide) (by decide) (by decide) h2
  have e16 := c5 16 u (by decide) (by decide) (by decide) h2
  have e12 := c5 12 u (by decide) (by decide) (by decide) h2
  have eI : ∀ j, iK K' u j = iK K u j := fun j => by unfold iK; rw [nN_e c7]
  have eW : isWK K' u = isWK K u := by unfold isWK; rw [e11]
  refine ⟨fun hw ho => ?_, fun hw => ?_⟩
  · rw [eW] at hw
    rw [e16] at ho
    have rl := hR.cf hI
    refine (rz_cg e11 e12 (c5 13 u (by decide) (by decide) (by decide) h2) (c5 14 u (by decide) (by decide) (by decide) h2) (fun j _ => eI j) (fun j hj => ?_) ?_).mpr (hq.1 hw ho)
    · have b := ib.1.2.2 j hj
      exact ⟨b.2.1, Or.inl (c5 16 _ (by decide) (by decide) (by decide) b.2.2), c5 18 _ (by decide) (by decide) (by decide) b.2.2, Or.inr (by rw [c50])⟩
    · intro h5
      have e := (hR.s u h1 h2).2.1
      have s := hI.s.2 u h1 h2
      rw [e] at h5
      rw [ib.2.2]
      obtain ⟨q1, q2, q3, q4, q5⟩ := s.1.2.2
      have h0 : nN M 2 u ≤ 8 := by
        unfold fm at h5
        split at h5
        · omega
        · split at h5 <;> omega
      have h00 : nN M 2 u ≠ 0 := fun z => by rw [z] at h5; exact absurd h5 (by decide)
      have : nN M 2 u = 1 ∨ nN M 2 u = 2 ∨ nN M 2 u = 3 ∨ nN M 2 u = 4 ∨ nN M 2 u = 5 ∨ nN M 2 u = 6 ∨ nN M 2 u = 7 ∨ nN M 2 u = 8 := by omega
      rcases this with z | z | z | z | z | z | z | z
      · have := q2 (Or.inl z); omega
      · exact (q3 (Or.inl z)).1
      · exact (q3 (Or.inr (Or.inl z))).1
      · exact q5 (Or.inl z)
      · exact q5 (Or.inr z)
      · exact (q3 (Or.inr (Or.inr z))).1
      · have := q4 z; omega
      · have := q2 (Or.inr (Or.inl z)); omega
  · rw [eW] at hw
    have q := hq.2 hw
    have n12 : nN K' 12 u = nN K 12 u := by unfold nN; rw [e12]
    have ef : finK K' u = finK K u := by unfold finK; rw [n12, eI]
    have ef2 : finK K u ≤ n := by
      unfold finK
      split
      · exact h2
      · exact (ib.1.2.2 0 (by omega)).2.2
    unfold frB at *
    rw [e11, e16, ef, c5 16 _ (by decide) (by decide) (by decide) ef2]; exact q
theorem Pre.of {so kd v7 v18 v19 v20 v29 v30 v32 st v24 form kind mi pz tm : Nat} {am am' : Int32} {ls rd : List Nat} (hS : Rst n k w F K L M) (hX : FX wn K' F) (hR' : Rel (n + 1) k F K' L' M') (hI' : Inv (n + 1) k w 0 0 M') (E : NwM n M M' so kd v7 v18 v19 v20 v29 v30 v32 am ls) (C : NwK n K K' st v24 form kind mi pz tm am' ls rd) : Pre (n + 1) k w wn F K' L' M' := by
  obtain ⟨hR, hI, hN, h13, h17, hQ⟩ := hS
  have Eo := E.2.2.2.2
  have a1 := hI'.a.1
  obtain ⟨⟨z1, z2, z3, z4, z5, z6, z7, z8⟩, y1, y2, y3, y4, y5, y6, y7⟩ := hI.zz (n + 1) (Or.inr (by omega)) a1
  refine ⟨hR', hI', fun u h1 h2 h3 => ?_, by rw [C.2.2.2.1.1 13 (by decide) (by decide)]; exact h13, by rw [nN_e (Eo 17 rfl), nN_e (Eo 16 rfl)]; exact h17, fun u h1 h2 => (hQ u h1 (by omega)).nw hR hI h1 (by omega) (fun f v h3 h4 h5 h6 => C.2.1.1 f v h3 h4 h5 (by omega)) (C.2.1.2.2 u (by omega)).1 (C.2.2.1 50 (by omega)), hX⟩
  rw [nN_e (Eo 13 rfl), nN_e (Eo 26 rfl)]
  by_cases c : u = n + 1
  · subst c; exact ⟨z6, y2⟩
  · rw [nN_e (Eo 8 rfl)] at h3
    exact hN u h1 (by omega) h3
theorem Pre.rest (hP : Pre n k w wn F K L M) (hq : 1 ≤ n → Qu K n) : Rst n k w F K L M := by
  obtain ⟨hR, hI, hN, h13, h17, hQ, hX⟩ := hP
  refine ⟨hR, hI, hN, h13, h17, fun u h1 h2 => ?_⟩
  by_cases c : u = n
  · subst c; exact hq h1
  · exact hQ u h1 (by omega)
theorem Pre.end {r : Rs} (hP : Pre n k w wn F K L M) (hn : 1 ≤ n) (ho : nN M 8 n = 0) (hr : RsM n F M M' n r) : Rst n k w (conS n (resK K n F r, resF F r) n).2 (conS n (resK K n F r, resF F r) n).1 L (folM n M' n) ∧ nI 5 ≤ resK K n F r 16 n ∧ FX wn (conS n (resK K n F r, resF F r) n).1 (conS n (resK K n F r, resF F r) n).2 ∧ PeOk n (resK K n F r) n ∧ IKw n k w wn (nteK (resK K n F r) n) (resF F r) L ∧ EndR M M' n := by
  obtain ⟨hR, hI, hN, h13, h17, hQ, hX⟩ := hP
  have z2 := (res_sim hR hI (by decide) hn (Nat.le_refl _) ho hr (Or.inl (by rw [h13]; simp)) (by rw [h13]; simp)).2.2.1
  have I2 := AskR.inv (Or.inr (Or.inr z2)) hI hn (Nat.le_refl _) ho
  obtain ⟨r1, r2, r3, r4⟩ := end_con hR hI (by decide) hN h13 h17 hn (Nat.le_refl _) ho hr I2 (fun u u1 u2 R' E' => (hQ u u1 u2).ask hR hI R' I2 (Or.inr (Or.inr E')) u1 (by omega) (by omega) (fun z => by have := inL_b hI.s u1 (show u ≤ n by omega) z; omega))
  have hB : BS n k w (nN M 16 0) F K L M := ⟨hR, hI, hN, DR.nil h13, Nat.le_refl _⟩
  have pe := (hR.pe (r := r) hI (by decide) (by decide) hn (Nat.le_refl _) ho).1
  have ik : IKw n k w wn (nteK (resK K n F r) n) (resF F r) L := ⟨hB.fx hX hn (Nat.le_refl _), _, _, (hB.end hn (Nat.le_refl _) ho hr).1⟩
  have cj := (con_J (ik_En (n := n) (k := k) (w := w)) ⟨hn, Nat.le_refl _⟩ pe ik).1
  exact ⟨r1, r2, cj.1.1, pe, ik, r3⟩
theorem fst_some (hI : Inv n k w x y M) (h1 : 1 ≤ t) (h2 : t ≤ n) : fstN M t true = 0 ↔ ¬ someB M t = true := by
  rw [fst_0 hI h1 h2, some_iff hI.nt]
  constructor
  · rintro z ⟨s, s1, s2⟩
    exact z s s1 ((fstB_t hI.nt).mpr s2)
  · intro z s s1 s2
    exact z ⟨s, s1, (fstB_t hI.nt).mp s2⟩
/-- a stage that isn't a work is opened -/
theorem open_sim (hP : Pre n k w wn F K L M) (hn : 1 ≤ n) (ho : nN M 8 n = 0) (h9 : nN M 2 n < 9) (hK : kepK K2 n = K) :
    Rst n k w (opnS n K2 F).2 (opnS n K2 F).1 L (bgnM n M n) ∧ FX wn (opnS n K2 F).1 (opnS n K2 F).2 ∧ rlOk (kepK K2 n) n F n ∧ (nI 5 ≤ oA K2 n F 16 n → PeOk n (oA K2 n F) n ∧ IKw n k w wn (nteK (oA K2 n F) n) (oN K2 n F) L) ∧ BgP n (M 3) (M 4) (IR n k w 0 (M 3) (M 4)) M n := by
  have hP' := hP
  obtain ⟨hR, hI, hN, h13, h17, hQ, hX⟩ := hP'
  have a1 := hI.a.1
  have hw : isWK K n = false := by
    cases q : isWK K n
    · rfl
    · have := (isW_iff hR hI hn (Nat.le_refl _)).mp q; omega
  have eA : oA K2 n F = resK K n F (rulR K n) := by unfold oA; rw [hK]
  have eN : oN K2 n F = resF F (rulR K n) := by unfold oN; rw [hK]
  have rl : rlOk (kepK K2 n) n F n := by rw [hK]; exact hR.rl hI (by decide) (by decide) hn (Nat.le_refl _) hw
  have n5 : ¬ nI 5 ≤ K 16 n := fun z => ((hR.k16 hI hn (Nat.le_refl _)).1.mp z) ho
  have bA : bgnA M n = stM M n := by
    unfold bgnA stM
    have e := fst_some hI hn (Nat.le_refl n)
    by_cases c : someB M n = true
    · rw [if_neg (fun z => (e.mp z) c), if_pos ⟨c, (hI.nt.z rfl).mpr ho⟩]
    · rw [if_pos (e.mpr c), if_neg (fun z => c z.1)]
  have hbg : JJ (IR n k w 0 (M 3) (M 4)) (stM M n) → BgP n (M 3) (M 4) (IR n k w 0 (M 3) (M 4)) M n := fun hj => ⟨IR_FP a1, (hI.ino (Nat.le_refl _)).1, Nat.le_refl _, fun z => by
    have c : someB M n = true := Classical.byContradiction (fun c => z ((fst_some hI hn (Nat.le_refl n)).mpr c))
    exact hI.ask hn (Nat.le_refl _) ho (some_pos hI c).1, by rw [bA]; exact hj⟩
  have J0 : JJ (IR n k w 0 (M 3) (M 4)) M := JJ_R.mpr ⟨hI, rfl, rfl, by omega, Nat.zero_le _⟩
  rcases rul_all hR hI (by decide) hn (Nat.le_refl _) ho h9 with ⟨e, e2⟩ | ⟨e, e0, r', e1, e2, e3⟩
  · have eA' : oA K2 n F = K := by rw [eA, e]; rfl
    have eN' : oN K2 n F = F := by rw [eN, e]; rfl
    have eo : opnS n K2 F = (K, F) := by unfold opnS; rw [eA', if_neg n5, eN']
    have st : stM M n = M := by
      unfold stM
      split
      · rename_i q; exact e2 q.1
      · rfl
    have eb : bgnM n M n = M := by unfold bgnM; rw [bA, st, if_pos ((hI.nt.z rfl).mpr ho)]
    rw [eo, eb, eA']
    exact ⟨hP.rest (fun _ => ⟨fun _ _ => by rw [e]; rfl, fun z => by rw [hw] at z; cases z⟩), hX, rl, fun z => absurd z n5, hbg (by rw [st]; exact J0)⟩
  · rw [eA, eN, e1, e2]
    obtain ⟨r1, r2, r3, r4, r5, r6⟩ := hP.end hn ho e3
    have st : stM M n = askedM M n := by unfold stM; rw [if_pos ⟨e, (hI.nt.z rfl).mpr ho⟩]
    have eo : opnS n K2 F = conS n (resK K n F r', resF F r') n := by unfold opnS; rw [eA, eN, e1, e2, if_pos r2]
    have eb : bgnM n M n = folM n (askedM M n) n := by
      unfold bgnM
      rw [bA, st, if_neg (fun z => r6.e8 ((r6.e10.2.2.2.z rfl).mp z))]
    rw [eo, eb]
    refine ⟨r1, r3, rl, fun _ => ⟨r4, r5⟩, hbg ?_⟩
    rw [st]
    exact r6.JJ J0 hn (Nat.le_refl _) ho
end OPNS
