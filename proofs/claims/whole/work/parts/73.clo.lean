/-! the class: what its steps take from the room; resumeOrTake -/
section CLO
abbrev S3 : Type := MS × Nat × KL
theorem jrn_ls {K : MS} {v s ev : Int32} : ∀ f j, isLs f → jrnK K v s ev f j = K f j := fun f j h => jrn_o (fun e => by subst e; unfold isLs at h; omega) (fun e => by unfold isLs at h; omega) (fun e => by unfold isLs at h; omega)
theorem PhK_jrn {K : MS} {F : Nat} {v s ev : Int32} (hj : jrOk K) : jcK K + PhK (jrnK K v s ev) F ≤ PhK K F := by
  have h1 := jc_le (v := v) (s := s) (ev := ev) hj
  have h3 : nN (jrnK K v s ev) 3 0 = nN K 3 0 := by rw [nN, jrn_o (by decide) (by decide) (by decide)]; rfl
  unfold PhK
  rw [PhL_e jrn_ls, h3]
  omega
/-- ints that the room doesn't see -/
theorem PhK_up {K : MS} {F f j : Nat} {v : Int32} (h3 : f ≠ 3) (h81 : f ≠ 81) (hl : ¬ isLs f) : PhK (up2 K f j v) F = PhK K F := by
  unfold PhK
  rw [PhL_e (up_ls hl), nN, up2_f (Ne.symm h3), nN, up2_f (Ne.symm h81)]; rfl
theorem PhK_newF {K : MS} {F f : Nat} {kd at' ca : Int32} {ns : Nat} {sup : Nat → Int32} (hF : F + 1 ≤ 2000) : 40 + PhK (newFK K f kd at' ca ns sup) (F + 1) = PhK K F := by
  have e : ∀ g j, g < 10000 → ¬ (50 ≤ g ∧ g ≤ 58) → newFK K f kd at' ca ns sup g j = K g j := fun g j h1 h2 => newFK_o (by omega) (by omega)
  unfold PhK
  rw [PhL_e (K := K) (K' := newFK K f kd at' ca ns sup) (fun g j h => e g j (by unfold isLs at h; omega) (by unfold isLs at h; omega)), nN, e 3 0 (by decide) (by decide), nN, e 81 0 (by decide) (by decide)]
  show 40 + (64 * (200 - nN K 3 0) + 40 * (2000 - (F + 1)) + PhL K + 2 * (48000 - nN K 81 0)) = _
  omega
theorem nls {f : Nat} (h : f < 64) : ¬ isLs f := fun q => by unfold isLs at q; omega
theorem mt_le {K : MS} {F i : Nat} (hj : jrOk K) (hF : F + 1 ≤ 2000) : mtC K i + PhK (mtK K F i) (mtN K F i) ≤ PhK K F := by
  unfold mtC mtK mtN
  by_cases h5 : K 16 (iK K i 0) = nI 5
  · rw [if_pos h5, if_pos h5, if_neg (by rw [h5]; decide +kernel)]
    unfold bsK
    rw [PhK_up (by decide) (by decide) (nls (by decide)), PhK_up (by decide) (by decide) (nls (by decide)), PhK_up (by decide) (by decide) (nls (by decide))]
    omega
  · rw [if_neg h5, if_neg h5]
    by_cases h6 : K 16 (iK K i 0) = nI 6
    · rw [if_pos h6, if_pos h6, if_pos h6]
      unfold mtF failK
      rw [PhK_up (by decide) (by decide) (nls (by decide)), PhK_up (by decide) (by decide) (nls (by decide)), PhK_newF hF]
      exact Nat.le_refl _
    · rw [if_neg h6, if_neg h6, if_neg h6]
      by_cases h7 : K 16 (iK K i 0) = nI 7
      · rw [if_pos h7, if_pos h7]
        unfold offK
        rw [PhK_up (by decide) (by decide) (nls (by decide))]
        omega
      · rw [if_neg h7, if_neg h7]
        unfold mtW
        have := PhK_jrn (K := up2 K 16 i (nI 3)) (F := F) (v := K 2 0) (s := K 10 i) (ev := nI 5) hj
        rw [PhK_up (by decide) (by decide) (nls (by decide))] at this
        exact this
theorem PhK_rel {K : MS} {n F i : Nat} (h : LA K n) (hn : n ≤ 201) (hh : nN K 31 i ≤ 12) : PhK (relK K i) F = PhK K F := by
  unfold PhK
  rw [PhL_rel h hn hh, nN, relK_o hh (by decide) (by decide) (by decide) (nls (by decide)), nN, relK_o hh (by decide) (by decide) (by decide) (fun q => by unfold isLs at q; omega)]; rfl
theorem fn_le {K : MS} {n F i : Nat} (hok : fnOk K n i) (hn : n ≤ 201) (hi : i ≤ n) (hF : F + 1 ≤ 2000) : fnC K F i + PhK (fnK K F i) (fnF K F i) ≤ PhK K F := by
  obtain ⟨hpl, hkd, hin, ⟨hk13, hk13b⟩, hpz, hple, hper, hhd, hj, hL, w, hw2, hbo⟩ := hok
  unfold fnC fnK fnF
  by_cases h1 : fwKd K i = -1
  · rw [if_pos h1, if_pos h1, if_pos h1]
    unfold gainK
    rw [PhK_up (by decide) (by decide) (nls (by decide)), PhK_up (by decide) (by decide) (nls (by decide))]
    omega
  · rw [if_neg h1, if_neg h1, if_neg h1]
    by_cases hB : fnB K i = true
    · rw [if_pos hB, if_pos hB]
      have oN : ∀ f j, ¬ (50 ≤ f ∧ f ≤ 58) → f < 10000 → fnN K F i f j = K f j := fun f j h1 h2 => newFK_o (by omega) (by omega)
      have oP : ∀ f j, f ≠ 25 → f ≠ 32 → f ≠ 16 → f < 2000 → ¬ (50 ≤ f ∧ f ≤ 58) → fnP1 K F i f j = K f j := fun f j a b c d e => by
        unfold fnP1 bpK
        rw [up2_f c, up2_f b, up2_f (by omega), up2_f (by omega), up2_f a, oN f j e (by omega)]
      have lsP : ∀ f j, isLs f → fnP1 K F i f j = K f j := fun f j h => by
        unfold isLs at h
        unfold fnP1 bpK
        rw [up2_f (by omega), up2_f (by omega), up2_f (by omega), up2_f (by omega), up2_f (by omega), oN f j (by omega) (by omega)]
      have h31 : nN (fnP1 K F i) 31 i ≤ 12 := by rw [nN, oP 31 i (by decide) (by decide) (by decide) (by decide) (by decide)]; exact hhd.2
      have hj2 : jrOk (fnP2 K F i) := by
        unfold fnP2
        exact jrOk_e ((relK_o h31 (by decide) (by decide) (by decide) (fun q => by unfold isLs at q; omega)).trans (oP 80 0 (by decide) (by decide) (by decide) (by decide) (by decide))) ((relK_o h31 (by decide) (by decide) (by decide) (fun q => by unfold isLs at q; omega)).trans (oP 81 0 (by decide) (by decide) (by decide) (by decide) (by decide))) hj
      have h2 := PhK_jrn (F := F + 1) (v := K 2 0) (s := K 10 i) (ev := nI 7) hj2
      have h3 : PhK (fnP2 K F i) (F + 1) = PhK (fnP1 K F i) (F + 1) := PhK_rel (hL.cg lsP) hn h31
      have h4 : 40 + PhK (fnP1 K F i) (F + 1) = PhK K F := by
        unfold fnP1 bpK
        rw [PhK_up (by decide) (by decide) (nls (by decide)), PhK_up (by decide) (by decide) (nls (by decide)), PhK_up (by omega) (by omega) (fun q => by unfold isLs at q; omega), PhK_up (by omega) (by omega) (fun q => by unfold isLs at q; omega), PhK_up (by decide) (by decide) (nls (by decide))]
        exact PhK_newF hF
      unfold fnP
      omega
    · rw [if_neg hB, if_neg hB]
      unfold fnE failK
      rw [PhK_up (by decide) (by decide) (nls (by decide)), PhK_up (by decide) (by decide) (nls (by decide)), PhK_newF hF]
      exact Nat.le_refl _
theorem tk_le {K : MS} {n F c u : Nat} (hL : LA K n) (hn : n ≤ 201) (hc : c ≤ 12) (hu : 1 ≤ u ∧ u ≤ n) (hj : jrOk K) : tkC K c u + PhK (tkK K c u) F ≤ PhK K F := by
  have LD := hL.drp hn (a := 0) (i := u) (by decide)
  have lk := LD c (by omega)
  have o1 : ∀ f j, ¬ isLs f → f ≠ 63 → tkK1 K c u f j = K f j := fun f j h1 h2 => tk1_o hc h1 h2
  have n80 : ¬ isLs 80 := fun q => by unfold isLs at q; omega
  have n81 : ¬ isLs 81 := fun q => by unfold isLs at q; omega
  have e3 : ∀ f j, f ≠ 28 → f ≠ 27 → f ≠ 26 → f ≠ 25 → f ≠ 16 → f ≠ 31 → f ≠ 30 → tkK3 K c u f j = tkK1 K c u f j := fun f j h1 h2 h3 h4 h5 h6 h7 => by unfold tkK3 bwK tkK2; rw [up2_f h5, up2_f h4, up2_f h3, up2_f h2, up2_f h1, up2_f h7, up2_f h6]
  have hj3 : jrOk (tkK3 K c u) := jrOk_e ((e3 80 0 (by decide) (by decide) (by decide) (by decide) (by decide) (by decide) (by decide)).trans (o1 80 0 n80 (by decide))) ((e3 81 0 (by decide) (by decide) (by decide) (by decide) (by decide) (by decide) (by decide)).trans (o1 81 0 n81 (by decide))) hj
  have h1 := PhK_jrn (F := F) (v := K 2 0) (s := K 10 u) (ev := nI 1) hj3
  have h2 : PhK (tkK3 K c u) F = PhK (tkK1 K c u) F := by
    unfold tkK3 bwK tkK2
    rw [PhK_up (by decide) (by decide) (nls (by decide)), PhK_up (by decide) (by decide) (nls (by decide)), PhK_up (by decide) (by decide) (nls (by decide)), PhK_up (by decide) (by decide) (nls (by decide)), PhK_up (by decide) (by decide) (nls (by decide)), PhK_up (by decide) (by decide) (nls (by decide)), PhK_up (by decide) (by decide) (nls (by decide))]
  have h3 : acK (drpK K 0 u) c + PhK (tkK1 K c u) F ≤ PhK K F := by
    have h4 := PhL_add (K := drpK K 0 u) (a := c) (i := u) (by omega) lk.1 hn (by omega) hu
    rw [PhL_drp (by decide) (hL 0 (by decide)).1] at h4
    unfold PhK
    rw [nN, o1 3 0 (nls (by decide)) (by decide), nN, o1 81 0 n81 (by decide)]
    show acK (drpK K 0 u) c + (64 * (200 - nN K 3 0) + 40 * (2000 - F) + PhL (addK (drpK K 0 u) c u) + 2 * (48000 - nN K 81 0)) ≤ _
    omega
  unfold tkC tkK
  omega
/-- what an end, with all that it brings about, keeps -/
theorem con_ok {n : Nat} {I : MS → Nat → Prop} (hP : CnP n I) (hcl : ∀ K F, I K F → I (clrK K 13) F) {K : MS} {F i e0 : Nat} (hi : 1 ≤ i ∧ i ≤ n) (hn : n ≤ 201) (hj : jrOk K) (hL : LA K n) (hh : isWK K i = true → hdOk K i) (he : K 3 0 = nI e0) (he2 : e0 < 200) (hI : I (nteK K i) F) : I (conS n (K, F) i).1 (conS n (K, F) i).2 ∧ PhK (conS n (K, F) i).1 (conS n (K, F) i).2 ≤ PhK K F := by
  have hc0 := ntc_le (F := F) (K := K) (i := i) (n := n) (e := e0) hL hn hj he he2 (fun h => (hh h).2) hi
  have hf0 : PhK (conS n (K, F) i).1 (conS n (K, F) i).2 ≤ PhK (nteK K i) F := con_le (S := (K, F)) (S1 := (nteK K i, F)) (i := i) (q := n - i) (t := i + 1) hP hI (by omega) (by omega) rfl
  obtain ⟨a1, a2⟩ := cn_ok hP (n - i) (i + 1) (nteK K i, F) hI (by omega) (by omega)
  refine ⟨?_, by omega⟩
  show I (clrK (duF 200 0 (cnF (n - i) (i + 1) (nteK K i, F)).1) 13) (cnF (n - i) (i + 1) (nteK K i, F)).2
  exact hcl _ _ (duF_ok (hP.1 _) 200 0 _ a1).1
variable {l : Launch} {Y : YT}
/-- cook c resumes, takes, or helps: which work ended by it (0: none) -/
def rtR (K : MS) (y : Nat) : MS := jrnK K (K 2 0) (K 10 y) (nI 6)
def rtH (K : MS) (c : Nat) : MS := up2 K 61 c (K 61 c + nI 1)
def rtK (K : MS) (F : Nat) (L : KL) (c : Nat) : MS := if upmK K c = 0 then (if chsK K L 0 = 0 then K else tkK K c (chsK K L 0)) else if K 16 (upmK K c) = nI 3 then (if nI 5 ≤ K 16 (iK K (upmK K c) 0) then mtK (rtR K (upmK K c)) F (upmK K c) else if chsK K L (iK K (upmK K c) 0) = 0 then K else tkK (rtH K c) c (chsK K L (iK K (upmK K c) 0))) else K
def rtF (K : MS) (F : Nat) (c : Nat) : Nat := if upmK K c = 0 then F else if K 16 (upmK K c) = nI 3 then (if nI 5 ≤ K 16 (iK K (upmK K c) 0) then mtN (rtR K (upmK K c)) F (upmK K c) else F) else F
def rtL (K : MS) (L : KL) (c : Nat) : KL := if upmK K c = 0 then (if chsK K L 0 = 0 then L else mrkL L (tkO K (chsK K L 0)).toNatClampNeg) else if K 16 (upmK K c) = nI 3 then (if nI 5 ≤ K 16 (iK K (upmK K c) 0) then mtL (rtR K (upmK K c)) L (upmK K c) else if chsK K L (iK K (upmK K c) 0) = 0 then L else mrkL L (tkO K (chsK K L (iK K (upmK K c) 0))).toNatClampNeg) else L
def rtE (K : MS) (F : Nat) (c : Nat) : Nat := if upmK K c = 0 then 0 else if K 16 (upmK K c) = nI 3 then (if nI 5 ≤ K 16 (iK K (upmK K c) 0) then (if nI 5 ≤ mtK (rtR K (upmK K c)) F (upmK K c) 16 (upmK K c) then upmK K c else 0) else 0) else 0
/-- what it asks -/
def rtOk (K : MS) (n F c : Nat) : Prop := LA K n ∧ jrOk K ∧ rdOk K n ∧ F + 1 ≤ 2000 ∧ (∀ u ∈ lsL K c, isWK K u = true ∧ (K 16 u = nI 3 → inK K n u ∧ nN K 12 u = 1 ∧ ∃ w, w ≤ 100000 ∧ bsO K u = nI w)) ∧ ∀ u ∈ lsL K 0, ∃ w, w ≤ 100000 ∧ tkO K u = nI w
theorem upm_in {K : MS} {n c : Nat} (hL : LOk K n c) (h0 : upmK K c ≠ 0) : upmK K c ∈ lsL K c ∧ 1 ≤ upmK K c ∧ upmK K c ≤ n := by
  have hl : (lsL K c).length ≠ 0 := fun z => h0 (by rw [upmK, List.eq_nil_of_length_eq_zero z]; rfl)
  have hm : upmK K c ∈ lsL K c := by
    unfold upmK
    rw [List.getElem?_eq_getElem (by omega)]
    exact List.getElem_mem _
  exact ⟨hm, hL.2.2.2.2.1 _ hm⟩
end CLO
