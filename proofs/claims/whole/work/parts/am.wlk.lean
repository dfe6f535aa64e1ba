/-! the class's walk and the reference's tree -/
section WLKS
variable {n k F w x y d wn W : Nat} {K K0 K1 K' : MS} {L : KL} {M M1 M' : MS} {i : Int32}
/-- what a failure has still to show -/
def remC (K : MS) (p : Nat) : List (Nat × Int32) := (if nN K 57 p = 0 then (if nN K 52 p = 0 then [] else [(nN K 52 p, nI 1)]) else []) ++ (List.range' (nN K 57 p - 1) (nN K 53 p - (nN K 57 p - 1))).map (fun j => (nN K (10000 + p) j, nI 2))
def flt (K : MS) : List Nat → List SE
  | [] => []
  | p :: l => (remC K p).map (fun e => (e.1 - 1, K 55 p, e.2)) ++ flt K l
def Pth (K : MS) : List Nat → Nat → Prop
  | [], h => h = 0
  | p :: l, h => h = p ∧ Pth K l (nN K 58 p)
def pw (K : MS) : List Nat → Nat
  | [] => 0
  | p :: l => (nN K 53 p + 2 - nN K 57 p) + pw K l
def uw (K : MS) (F W : Nat) : Nat := sumN (fun g => if K 54 (g + 1) = nI W then 0 else nN K 53 (g + 1) + 3) F
theorem remC_e {p : Nat} (h57 : nN K' 57 p = nN K 57 p) (h52 : nN K' 52 p = nN K 52 p) (h53 : nN K' 53 p = nN K 53 p) (h1 : nN K' (10000 + p) = nN K (10000 + p)) : remC K' p = remC K p := by
  unfold remC; rw [h57, h52, h53, h1]
theorem flt_e : ∀ (l : List Nat), (∀ p ∈ l, remC K' p = remC K p ∧ K' 55 p = K 55 p) → flt K' l = flt K l
  | [], _ => rfl
  | p :: l, h => by
    rw [flt, flt, flt_e l (fun q hq => h q (List.mem_cons_of_mem _ hq)), (h p List.mem_cons_self).1, (h p List.mem_cons_self).2]
theorem Pth_e : ∀ (l : List Nat) (h : Nat), (∀ p ∈ l, nN K' 58 p = nN K 58 p) → Pth K l h → Pth K' l h
  | [], _, _, hp => hp
  | p :: l, h, he, hp => ⟨hp.1, by rw [he p List.mem_cons_self]; exact Pth_e l _ (fun q hq => he q (List.mem_cons_of_mem _ hq)) hp.2⟩
theorem pw_e : ∀ (l : List Nat), (∀ p ∈ l, nN K' 53 p = nN K 53 p ∧ nN K' 57 p = nN K 57 p) → pw K' l = pw K l
  | [], _ => rfl
  | p :: l, h => by
    rw [pw, pw, pw_e l (fun q hq => h q (List.mem_cons_of_mem _ hq)), (h p List.mem_cons_self).1, (h p List.mem_cons_self).2]
theorem remC_step {p : Nat} (h57 : K 57 p = nI (nN K 57 p)) (hle : nN K 57 p ≤ nN K 53 p) (hsup : ∀ j, j < nN K 53 p → nN K (10000 + p) j ≠ 0) (hb : nN K 53 p ≤ 100) : (wtP K p = 0 ∧ remC K p = remC (up2 K 57 p (nI (nN K 57 p + 1))) p) ∨ (wtP K p ≠ 0 ∧ remC K p = (wtP K p, wtT K p) :: remC (up2 K 57 p (nI (nN K 57 p + 1))) p) := by
  have e57 : nN (up2 K 57 p (nI (nN K 57 p + 1))) 57 p = nN K 57 p + 1 := by rw [nN_sn (by omega), vu_s]
  have e53 : nN (up2 K 57 p (nI (nN K 57 p + 1))) 53 p = nN K 53 p := by rw [nN_f (by decide)]
  have e1 : nN (up2 K 57 p (nI (nN K 57 p + 1))) (10000 + p) = nN K (10000 + p) := nN_f (by omega)
  have er : remC (up2 K 57 p (nI (nN K 57 p + 1))) p = (List.range' (nN K 57 p) (nN K 53 p - nN K 57 p)).map (fun j => (nN K (10000 + p) j, nI 2)) := by
    unfold remC
    rw [e57, e53, e1, if_neg (by omega), List.nil_append, show nN K 57 p + 1 - 1 = nN K 57 p by omega]
  rw [er]
  unfold remC wtP wtT
  by_cases c : nN K 57 p = 0
  · have c' : K 57 p = 0 := by rw [h57, c, nI_0]
    rw [if_pos c, if_pos c', if_pos c', c]
    by_cases c2 : nN K 52 p = 0
    · left; rw [if_pos c2]; exact ⟨c2, rfl⟩
    · right; rw [if_neg c2]; exact ⟨c2, rfl⟩
  · have c' : ¬ K 57 p = 0 := fun z => c (by unfold nN; rw [z]; decide)
    rw [if_neg c, if_neg c', if_neg c', List.nil_append]
    right
    refine ⟨hsup _ (by omega), ?_⟩
    rw [show nN K 53 p - (nN K 57 p - 1) = (nN K 53 p - nN K 57 p) + 1 by omega, List.range'_succ, show nN K 57 p - 1 + 1 = nN K 57 p by omega]
    rfl
theorem remC_nil {p : Nat} (h : nN K 57 p = nN K 53 p + 1) : remC K p = [] := by
  unfold remC
  rw [if_neg (by omega), List.nil_append, show nN K 53 p - (nN K 57 p - 1) = 0 by omega]; rfl
/-- the two walks side by side -/
def WI (K0 M : MS) (F W : Nat) (i : Int32) (K : MS) (r nw : Nat) (path : List Nat) (M1 : MS) : Prop :=
  ((∀ f, f ≠ 4 → ¬ (54 ≤ f ∧ f ≤ 58) → K f = K0 f) ∧ (∀ f, f < 57 → M1 f = M f) ∧ K 4 0 = nI W) ∧
  (path.Nodup ∧ ∀ p ∈ path, (1 ≤ p ∧ p ≤ F) ∧ K 54 p = nI W ∧ K 57 p = nI (nN K 57 p) ∧ nN K 57 p ≤ nN K 53 p + 1) ∧
  (∀ g, g < F → (M1 65 g = 0 ↔ ¬ K 54 (g + 1) = nI W)) ∧ SK M1 = flt K path ∧
  (M1 60 0 = nI r ∧ 1 ≤ r ∧ (1 ≤ nw ∧ nw ≤ F) ∧ K 54 nw = nI W ∧ K 55 nw = nI (r - 1)) ∧
  (∀ f, 1 ≤ f → f ≤ F → K 54 f = nI W → (∃ b, b ≤ F ∧ K 58 f = nI b ∧ (b = 0 ∨ K 54 b = nI W)) ∧ ∃ p, p < r ∧ K 55 f = nI p ∧ M1 57 p = nI (f - 1) ∧ M1 58 p = (if K 58 f = 0 then -4 else K 55 (nN K 58 f)) ∧ M1 59 p = K 56 f) ∧
  (∀ p, p + 1 < r → ¬ nI p = i) ∧ ∀ f, 1 ≤ f → f ≤ F → ∃ b, b ≤ W ∧ K 54 f = nI b
/-- what the failures are, on both sides -/
def FS (K0 M : MS) (F : Nat) : Prop := F < 1202 ∧ ∀ f, 1 ≤ f → f ≤ F → (nN K0 53 f = nN M 37 (f - 1) ∧ nN M 37 (f - 1) ≤ 24) ∧ ((M 35 (f - 1) = -1 ∧ nN K0 52 f = 0) ∨ ∃ h, h < F ∧ M 35 (f - 1) = nI h ∧ nN K0 52 f = h + 1) ∧ ∀ j, j < nN M 37 (f - 1) → nN K0 (10000 + f) j = nN M 39 (nN M 36 (f - 1) + j) + 1 ∧ nN M 39 (nN M 36 (f - 1) + j) < F
theorem Rel.fs (hR : Rel n k F K L M) (hI : Inv n k w 0 0 M) : FS K M F := by
  have bd := hI.bd (by decide) (by decide)
  have hF := hR.f.1
  refine ⟨by omega, fun f h1 h2 => ?_⟩
  have g := hR.f.2 (f - 1) (by omega)
  have q := hI.f.1 (f - 1) (by omega)
  rw [show f - 1 + 1 = f by omega] at g
  obtain ⟨q1, q2, q3, q4, q5⟩ := q
  refine ⟨⟨g.2.2.2.1, q3⟩, ?_, fun j hj => ⟨g.2.2.2.2 j hj, by have := q5 j hj; omega⟩⟩
  rcases q2 with e | ⟨h, e1, e2⟩
  · refine Or.inl ⟨e, ?_⟩
    unfold nN; rw [g.2.2.1, e]; decide +kernel
  · refine Or.inr ⟨h, by omega, e2, ?_⟩
    unfold nN; rw [g.2.2.1, e2, nI_add, nI_clamp (by omega)]
theorem flt_len (hS : FS K0 M F) (h5 : ∀ f, f ≠ 4 → ¬ (54 ≤ f ∧ f ≤ 58) → K f = K0 f) : ∀ (l : List Nat), (∀ p ∈ l, 1 ≤ p ∧ p ≤ F) → (flt K l).length ≤ 25 * l.length
  | [], _ => Nat.le_refl _
  | p :: l, h => by
    rw [flt, List.length_append, List.length_map]
    have r := flt_len hS h5 l (fun q hq => h q (List.mem_cons_of_mem _ hq))
    have hp := h p List.mem_cons_self
    have s := (hS.2 p hp.1 hp.2).1
    have e53 : nN K 53 p = nN K0 53 p := by rw [nN_e (h5 53 (by decide) (by decide))]
    have : (remC K p).length ≤ 25 := by
      unfold remC
      rw [List.length_append, List.length_map, List.length_range']
      have : (if nN K 57 p = 0 then (if nN K 52 p = 0 then [] else [(nN K 52 p, nI 1)]) else []).length ≤ 1 := by
        split
        · split
          · exact Nat.zero_le _
          · exact Nat.le_refl _
        · exact Nat.zero_le _
      omega
    rw [List.length_cons]
    omega
/-- the outcome -/
def WO (K0 M : MS) (F W : Nat) (i : Int32) (E : MS × Nat) (Mz : MS) : Prop :=
  (∀ f, f ≠ 4 → ¬ (54 ≤ f ∧ f ≤ 58) → E.1 f = K0 f) ∧ E.1 4 0 = nI W ∧ (1 ≤ E.2 ∧ E.2 ≤ F) ∧ (∀ f, 1 ≤ f → f ≤ F → ∃ b, b ≤ W ∧ E.1 54 f = nI b) ∧ (∃ r, 1 ≤ r ∧ r < 2 ^ 31 ∧ Mz 60 0 = nI r ∧
  ((E.1 55 E.2 = i ∧ ∃ p, p < r ∧ i = nI p ∧ Mz 57 p = nI (E.2 - 1) ∧ Mz 58 p = (if E.1 58 E.2 = 0 then -4 else E.1 55 (nN E.1 58 E.2)) ∧ Mz 59 p = E.1 56 E.2) ∨ (¬ E.1 55 E.2 = i ∧ ∀ p, p < r → ¬ nI p = i)))
theorem WI.stop {r nw : Nat} {path : List Nat} {q : Nat} (h : WI K0 M F W i K r nw path M1) (hb : r + q < 2 ^ 31) (hs : path = [] ∨ K 55 nw = i) : WO K0 M F W i (K, nw) (trF q M1) := by
  obtain ⟨⟨a1, a2, a3⟩, ⟨b1, b2⟩, c1, c2, ⟨d1, d2, d3, d4, d5⟩, e1, e2, e3⟩ := h
  have hr : nN M1 60 0 = r := nN_of d1 (by omega)
  obtain ⟨k1, k2, k3⟩ := trF_keep q M1 (by rw [hr]; exact hb) (by rw [hr]; exact d1)
  have hlt := nN_lt (trF q M1) 60 0
  refine ⟨a1, a3, d3, e3, nN (trF q M1) 60 0, by omega, hlt, k2, ?_⟩
  by_cases c : K 55 nw = i
  · left
    obtain ⟨-, p, p1, p2, p3, p4, p5⟩ := e1 nw d3.1 d3.2 d4
    refine ⟨c, p, by omega, by rw [← c]; exact p2, by rw [k3 57 p (by simp) (by omega)]; exact p3, by rw [k3 58 p (by simp) (by omega)]; exact p4, by rw [k3 59 p (by simp) (by omega)]; exact p5⟩
  · right
    have hp : path = [] := hs.elim id (fun z => absurd z c)
    subst hp
    have hz : trF q M1 = M1 := trF_nil c2
    rw [hz, hr]
    refine ⟨c, fun p hp z => ?_⟩
    by_cases cp : p + 1 < r
    · exact e2 p cp z
    · have : p = r - 1 := by omega
      subst this
      exact c (d5.trans z)
theorem wlk_sim (hS : FS K0 M F) : ∀ (q : Nat) (K : MS) (r nw hr : Nat) (path : List Nat) (M1 : MS) (q' : Nat), WI K0 M F W i K r nw path M1 → Pth K path hr → uw K F W + pw K path ≤ q → q ≤ q' → r + q' < 2 ^ 31 → WO K0 M F W i (wtF i q K (nI r) nw hr) (trF q' M1)
  | 0, K, r, nw, hr, path, M1, q', h, hp, hm, hq, hb => by
    rw [wtF]
    refine h.stop hb (Or.inl ?_)
    cases path with
    | nil => rfl
    | cons p l =>
      exfalso
      have := (h.2.1.2 p List.mem_cons_self).2.2.2
      rw [pw] at hm
      omega
  | q + 1, K, r, nw, hr, path, M1, q', h, hp, hm, hq, hb => by
    rw [wtF]
    by_cases c1 : hr = 0 ∨ K 55 nw = i
    · rw [if_pos c1]
      refine h.stop hb ?_
      rcases c1 with z | z
      · cases path with
        | nil => exact Or.inl rfl
        | cons p l =>
          have h1 : hr = p := hp.1
          have := (h.2.1.2 p List.mem_cons_self).1.1
          omega
      · exact Or.inr z
    · rw [if_neg c1]
      have c55 : ¬ K 55 nw = i := fun z => c1 (Or.inr z)
      have h0 := h
      obtain ⟨⟨a1, a2, a3⟩, ⟨b1, b2⟩, cc1, cc2, ⟨d1, d2, d3, d4, d5⟩, e1, e2, e3⟩ := h
      cases path with
      | nil => exact absurd (Or.inl hp) c1
      | cons p l =>
        obtain ⟨rfl, hp2⟩ := hp
        have bp := b2 hr List.mem_cons_self
        have sp := hS.2 hr bp.1.1 bp.1.2
        have hnd := List.nodup_cons.mp b1
        have s53 : nN K 53 hr = nN M 37 (hr - 1) := by rw [nN_e (a1 53 (by decide) (by decide))]; exact sp.1.1
        have f53 : ∀ f, nN K 53 f = nN K0 53 f := fun f => by rw [nN_e (a1 53 (by decide) (by decide))]
        by_cases c2 : ¬ K 57 hr ≤ nI (nN K 53 hr)
        · rw [if_pos c2]
          have htu : nN K 57 hr = nN K 53 hr + 1 := by
            rw [bp.2.2.1, nI_leI (nN_lt _ _ _) (by omega)] at c2
            have := bp.2.2.2; omega
          refine wlk_sim hS q K r nw _ l M1 q' ⟨⟨a1, a2, a3⟩, ⟨hnd.2, fun p hp => b2 p (List.mem_cons_of_mem _ hp)⟩, cc1, ?_, ⟨d1, d2, d3, d4, d5⟩, e1, e2, e3⟩ hp2 ?_ (by omega) hb
          · rw [cc2, flt, remC_nil htu]; rfl
          · rw [pw] at hm; omega
        · rw [if_neg c2]
          have hle : nN K 57 hr ≤ nN K 53 hr := by
            have c3 : K 57 hr ≤ nI (nN K 53 hr) := Classical.byContradiction c2
            rw [bp.2.2.1, nI_leI (nN_lt _ _ _) (by omega)] at c3
            exact c3
          have hsup : ∀ j, j < nN K 53 hr → nN K (10000 + hr) j ≠ 0 := fun j hj => by
            rw [nN_e (a1 (10000 + hr) (by omega) (by omega)), (sp.2.2 j (by omega)).1]; omega
          have st := remC_step (p := hr) bp.2.2.1 hle hsup (by omega)
          -- the state with the turn moved on
          have oT : ∀ f, f ≠ 57 → up2 K 57 hr (nI (nN K 57 hr + 1)) f = K f := fun f hf => up2_f hf
          have jT : ∀ f p, p ≠ hr → up2 K 57 hr (nI (nN K 57 hr + 1)) f p = K f p := fun f p hp => up2_n (fun z => hp z.2)
          have nT : ∀ f p, p ≠ hr → nN (up2 K 57 hr (nI (nN K 57 hr + 1))) f p = nN K f p := fun f p hp => congrArg Int32.toNatClampNeg (jT f p hp)
          have t57 : nN (up2 K 57 hr (nI (nN K 57 hr + 1))) 57 hr = nN K 57 hr + 1 := by rw [nN_sn (by omega), vu_s]
          have remT : ∀ p, p ≠ hr → remC (up2 K 57 hr (nI (nN K 57 hr + 1))) p = remC K p := fun p hp => remC_e (nT 57 p hp) (nT 52 p hp) (nT 53 p hp) (nN_e (oT _ (by omega)))
          have fltT : flt (up2 K 57 hr (nI (nN K 57 hr + 1))) l = flt K l := flt_e l (fun p hp => ⟨remT p (fun z => hnd.1 (z ▸ hp)), by rw [oT 55 (by decide)]⟩)
          have pwT : pw (up2 K 57 hr (nI (nN K 57 hr + 1))) (hr :: l) + 1 = pw K (hr :: l) := by
            rw [pw, pw, t57, nN_e (oT 53 (by decide)), pw_e l (fun p hp => ⟨by rw [nN_e (oT 53 (by decide))], nT 57 p (fun z => hnd.1 (z ▸ hp))⟩)]
            omega
          have uwT : uw (up2 K 57 hr (nI (nN K 57 hr + 1))) F W = uw K F W := by unfold uw; rw [oT 54 (by decide), nN_e (oT 53 (by decide))]
          have pathT : ∀ p ∈ hr :: l, (1 ≤ p ∧ p ≤ F) ∧ up2 K 57 hr (nI (nN K 57 hr + 1)) 54 p = nI W ∧ up2 K 57 hr (nI (nN K 57 hr + 1)) 57 p = nI (nN (up2 K 57 hr (nI (nN K 57 hr + 1))) 57 p) ∧ nN (up2 K 57 hr (nI (nN K 57 hr + 1))) 57 p ≤ nN (up2 K 57 hr (nI (nN K 57 hr + 1))) 53 p + 1 := fun p hp => by
            have bq := b2 p hp
            refine ⟨bq.1, by rw [oT 54 (by decide)]; exact bq.2.1, ?_⟩
            by_cases cp : p = hr
            · subst cp
              rw [t57, up2_s, nN_e (oT 53 (by decide))]; exact ⟨rfl, by omega⟩
            · rw [jT 57 p cp, nT 57 p cp, nT 53 p cp]; exact bq.2.2
          have PthT : Pth (up2 K 57 hr (nI (nN K 57 hr + 1))) (hr :: l) hr := ⟨rfl, by rw [nN_e (oT 58 (by decide))]; exact Pth_e l _ (fun p _ => by rw [nN_e (oT 58 (by decide))]) hp2⟩
          generalize hKT : up2 K 57 hr (nI (nN K 57 hr + 1)) = KT at *
          have aT : ∀ f, f ≠ 4 → ¬ (54 ≤ f ∧ f ≤ 58) → KT f = K0 f := fun f h1 h2 => by rw [oT f (by omega)]; exact a1 f h1 h2
          have eT : ∀ f, 1 ≤ f → f ≤ F → KT 54 f = nI W → (∃ b, b ≤ F ∧ KT 58 f = nI b ∧ (b = 0 ∨ KT 54 b = nI W)) ∧ ∃ p, p < r ∧ KT 55 f = nI p ∧ M1 57 p = nI (f - 1) ∧ M1 58 p = (if KT 58 f = 0 then -4 else KT 55 (nN KT 58 f)) ∧ M1 59 p = KT 56 f := fun f h1 h2 h3 => by
            rw [oT 54 (by decide)] at h3 ⊢
            rw [oT 58 (by decide), oT 55 (by decide), oT 56 (by decide), nN_e (oT 58 (by decide))]; exact e1 f h1 h2 h3
          rcases st with ⟨p0, rem⟩ | ⟨p0, rem⟩
          · rw [if_pos (Or.inl p0)]
            refine wlk_sim hS q KT r nw hr (hr :: l) M1 q' ⟨⟨aT, a2, by rw [oT 4 (by decide)]; exact a3⟩, ⟨b1, pathT⟩, fun g hg => by rw [oT 54 (by decide)]; exact cc1 g hg, ?_, ⟨d1, d2, d3, by rw [oT 54 (by decide)]; exact d4, by rw [oT 55 (by decide)]; exact d5⟩, eT, e2, fun f h1 h2 => by rw [oT 54 (by decide)]; exact e3 f h1 h2⟩ PthT (by rw [uwT]; omega) (by omega) hb
            rw [cc2, flt, flt, fltT, ← rem, oT 55 (by decide)]
          · -- a failure stands next
            have wpF : 1 ≤ wtP K hr ∧ wtP K hr ≤ F := by
              refine ⟨by omega, ?_⟩
              unfold wtP
              split
              · rcases sp.2.1 with z | ⟨h, h1, -, h3⟩
                · rw [nN_e (a1 52 (by decide) (by decide)), z.2]; exact Nat.zero_le _
                · rw [nN_e (a1 52 (by decide) (by decide)), h3]; omega
              · rename_i z
                have : nN K 57 hr ≠ 0 := fun y => z (by rw [bp.2.2.1, y, nI_0])
                have q1 := sp.2.2 (nN K 57 hr - 1) (by omega)
                rw [nN_e (a1 (10000 + hr) (by omega) (by omega)), q1.1]; omega
            have hSK : SK M1 = (wtP K hr - 1, K 55 hr, wtT K hr) :: flt KT (hr :: l) := by
              rw [cc2, flt, rem, flt, fltT, oT 55 (by decide)]; rfl
            have q0 : ∃ q2, q' = q2 + 1 := ⟨q' - 1, by omega⟩
            obtain ⟨q2, rfl⟩ := q0
            by_cases cv : K 54 (wtP K hr) = K 4 0
            · rw [if_pos (Or.inr cv)]
              have h65 : ¬ M1 65 (wtP K hr - 1) = 0 := fun z => by
                have := (cc1 (wtP K hr - 1) (by omega)).mp z
                rw [show wtP K hr - 1 + 1 = wtP K hr by omega, cv, a3] at this
                exact this rfl
              obtain ⟨t1, t2⟩ := trF_see (q := q2) hSK h65
              rw [t1]
              refine wlk_sim hS q KT r nw hr (hr :: l) _ q2 ⟨⟨aT, fun f hf => by rw [up2_f (by omega)]; exact a2 f hf, by rw [oT 4 (by decide)]; exact a3⟩, ⟨b1, pathT⟩, fun g hg => by rw [oT 54 (by decide), up2_f (by decide)]; exact cc1 g hg, t2, ⟨by rw [up2_f (by decide)]; exact d1, d2, d3, by rw [oT 54 (by decide)]; exact d4, by rw [oT 55 (by decide)]; exact d5⟩, fun f h1 h2 h3 => by rw [up2_f (f := 57) (by decide), up2_f (f := 58) (by decide), up2_f (f := 59) (by decide)]; exact eT f h1 h2 h3, e2, fun f h1 h2 => by rw [oT 54 (by decide)]; exact e3 f h1 h2⟩ PthT (by rw [uwT]; omega) (by omega) (by omega)
            · rw [if_neg (fun z => z.elim p0 cv)]
              rw [a3] at cv
              have h65 : M1 65 (wtP K hr - 1) = 0 := (cc1 (wtP K hr - 1) (by omega)).mpr (by rw [show wtP K hr - 1 + 1 = wtP K hr by omega]; exact cv)
              have hr60 : nN M1 60 0 = r := nN_of d1 (by omega)
              have sc := hS.2 (wtP K hr) wpF.1 wpF.2
              have lenb : nN M1 64 0 ≤ 50000 := by
                rw [← SK_len, cc2]
                have l1 := flt_len hS a1 (hr :: l) (fun p hp => (b2 p hp).1)
                have l2 := nd_len b1 (fun p hp => (b2 p hp).1)
                have := hS.1
                omega
              rw [trF_new (q := q2) hSK h65, hr60]
              obtain ⟨m1, m2, ⟨m3, m4, m5, m6⟩, m7⟩ := trS_E (r := r) hSK (by omega) (by omega) (by rw [nN_e (a2 37 (by decide))]; exact sc.1.2)
              have hne : wtP K hr ∉ hr :: l := fun z => cv (b2 _ z).2.1
              have hneh : wtP K hr ≠ hr := fun z => hne (by rw [z]; exact List.mem_cons_self)
              rw [a3]
              have oS : ∀ f, f < 54 ∨ 58 < f → stdK KT (wtP K hr) (nI W) (nI r) (nI hr) (wtT K hr) f = KT f := fun f hf => funext (fun j => std_o hf)
              have jS : ∀ f p, p ≠ wtP K hr → stdK KT (wtP K hr) (nI W) (nI r) (nI hr) (wtT K hr) f p = KT f p := fun f p hp => std_j hp
              have nS : ∀ f p, p ≠ wtP K hr → nN (stdK KT (wtP K hr) (nI W) (nI r) (nI hr) (wtT K hr)) f p = nN KT f p := fun f p hp => by unfold nN; rw [jS f p hp]
              have s54 : stdK KT (wtP K hr) (nI W) (nI r) (nI hr) (wtT K hr) 54 (wtP K hr) = nI W := by unfold stdK; rw [up2_f (by decide), up2_f (by decide), up2_f (by decide), up2_f (by decide), up2_s]
              have s55 : stdK KT (wtP K hr) (nI W) (nI r) (nI hr) (wtT K hr) 55 (wtP K hr) = nI r := by unfold stdK; rw [up2_f (by decide), up2_f (by decide), up2_f (by decide), up2_s]
              have s58 : stdK KT (wtP K hr) (nI W) (nI r) (nI hr) (wtT K hr) 58 (wtP K hr) = nI hr := by unfold stdK; rw [up2_f (by decide), up2_f (by decide), up2_s]
              have s56 : stdK KT (wtP K hr) (nI W) (nI r) (nI hr) (wtT K hr) 56 (wtP K hr) = wtT K hr := by unfold stdK; rw [up2_f (by decide), up2_s]
              have s57 : stdK KT (wtP K hr) (nI W) (nI r) (nI hr) (wtT K hr) 57 (wtP K hr) = nI 0 := by unfold stdK; rw [up2_s]
              have est : nI r + nI 1 = nI (r + 1) := nI_add _ _
              rw [est]
              generalize hKS : stdK KT (wtP K hr) (nI W) (nI r) (nI hr) (wtT K hr) = KS at *
              generalize hc : wtP K hr = c at *
              have n57 : nN KS 57 c = 0 := by unfold nN; rw [s57]; decide +kernel
              have aS : ∀ f, f ≠ 4 → ¬ (54 ≤ f ∧ f ≤ 58) → KS f = K0 f := fun f h1 h2 => by rw [oS f (by omega)]; exact aT f h1 h2
              have remS : ∀ p, p ≠ c → remC KS p = remC KT p := fun p hp => remC_e (nS 57 p hp) (nS 52 p hp) (nS 53 p hp) (nN_e (oS _ (by omega)))
              have fltS : flt KS (hr :: l) = flt KT (hr :: l) := flt_e _ (fun p hp => ⟨remS p (fun z => hne (z ▸ hp)), jS 55 p (fun z => hne (z ▸ hp))⟩)
              have hkid : (remC KS c).map (fun e => (e.1 - 1, KS 55 c, e.2)) = (if M1 35 (c - 1) = -1 then [] else [((M1 35 (c - 1)).toNatClampNeg, nI r, nI 1)]) ++ (List.range (nN M1 37 (c - 1))).map (fun j => (nN M1 39 (nN M1 36 (c - 1) + j), nI r, nI 2)) := by
                unfold remC
                rw [n57, if_pos rfl, nN_e (aS 52 (by decide) (by decide)), nN_e (aS 53 (by decide) (by decide)), nN_e (aS (10000 + c) (by omega) (by omega)), s55, a2 35 (by decide), nN_e (a2 37 (by decide)), nN_e (a2 39 (by decide)), nN_e (a2 36 (by decide)), sc.1.1, List.map_append, List.map_map, show (0 : Nat) - 1 = 0 by decide, Nat.sub_zero, ← List.range_eq_range']
                congr 1
                · rcases sc.2.1 with z | ⟨h, h1, h2, h3⟩
                  · rw [if_pos z.2, if_pos z.1]; rfl
                  · rw [if_neg (by omega), if_neg (by rw [h2]; exact nI_ne_m1 (by have := hS.1; omega)), h2, h3, nI_clamp (by have := hS.1; omega)]; rfl
                · refine List.map_congr_left (fun j hj => ?_)
                  have hj' := List.mem_range.mp hj
                  show (nN K0 (10000 + c) j - 1, nI r, nI 2) = _
                  rw [(sc.2.2 j hj').1]; rfl
              refine wlk_sim hS q KS (r + 1) c c (c :: hr :: l) _ q2 ⟨⟨aS, fun f hf => by rw [m1 f hf]; exact a2 f hf, by rw [oS 4 (by omega), oT 4 (by decide)]; exact a3⟩, ⟨List.nodup_cons.mpr ⟨hne, b1⟩, fun p hp => ?_⟩, fun g hg => ?_, ?_, ⟨m6, by omega, wpF, s54, by rw [s55, show r + 1 - 1 = r by omega]⟩, fun f h1 h2 h3 => ?_, fun p hp => ?_, fun f h1 h2 => ?_⟩ ⟨rfl, ?_⟩ ?_ (by omega) (by omega)
              · by_cases cp : p = c
                · subst cp
                  exact ⟨wpF, s54, by rw [n57, s57], by rw [n57]; exact Nat.zero_le _⟩
                · have hp' : p ∈ hr :: l := (List.mem_cons.mp hp).elim (fun z => absurd z cp) id
                  have := pathT p hp'
                  rw [jS 54 p cp, jS 57 p cp, nS 57 p cp, nS 53 p cp]; exact this
              · rw [m2]
                by_cases cg : g = c - 1
                · subst cg
                  rw [vu_s, show c - 1 + 1 = c by omega, s54]
                  exact ⟨fun z => absurd z (by decide), fun z => absurd rfl z⟩
                · rw [vu_n cg, jS 54 (g + 1) (by omega), oT 54 (by decide)]; exact cc1 g hg
              · show _ = (remC KS c).map (fun e => (e.1 - 1, KS 55 c, e.2)) ++ flt KS (hr :: l)
                rw [fltS, hkid, m7, List.append_assoc]
              · by_cases cf : f = c
                · subst cf
                  refine ⟨⟨hr, bp.1.2, s58, Or.inr ?_⟩, r, by omega, s55, by rw [m3, vu_s], ?_, by rw [m5, vu_s, s56]⟩
                  · rw [jS 54 hr (fun z => hneh z.symm), oT 54 (by decide)]; exact bp.2.1
                  · rw [m4, vu_s, s58, if_neg (nI_ne0 (by omega) (by have := hS.1; omega))]
                    unfold nN
                    rw [s58, nI_clamp (by have := hS.1; omega), jS 55 hr (fun z => hneh z.symm), oT 55 (by decide)]
                · rw [jS 54 f cf] at h3
                  obtain ⟨⟨b, g1, g2, g3⟩, p, p1, p2, p3, p4, p5⟩ := eT f h1 h2 h3
                  have hbc : b ≠ c := fun z => by
                    rcases g3 with y | y
                    · omega
                    · rw [z, oT 54 (by decide)] at y; exact cv y
                  refine ⟨⟨b, g1, by rw [jS 58 f cf]; exact g2, g3.imp id (fun y => by rw [jS 54 b hbc]; exact y)⟩, p, by omega, by rw [jS 55 f cf]; exact p2, by rw [m3, vu_n (by omega)]; exact p3, ?_, by rw [m5, vu_n (by omega), jS 56 f cf]; exact p5⟩
                  have nb : nN KT 58 f = b := nN_of g2 (by have := hS.1; omega)
                  rw [m4, vu_n (by omega), p4, jS 58 f cf, nS 58 f cf, nb, jS 55 b hbc]
              · by_cases cp : p + 1 < r
                · exact e2 p cp
                · have : p = r - 1 := by omega
                  subst this
                  intro z; exact c55 (d5.trans z)
              · by_cases cf : f = c
                · subst cf; exact ⟨W, Nat.le_refl _, s54⟩
                · rw [jS 54 f cf, oT 54 (by decide)]; exact e3 f h1 h2
              · have nb : nN KS 58 c = hr := nN_of s58 (by have := hS.1; omega)
                rw [nb]
                exact Pth_e (hr :: l) hr (fun p hp => nS 58 p (fun z => hne (z ▸ hp))) PthT
              · have u1 : uw KS F W + (nN K 53 c + 3) = uw K F W := by
                  have q1 := sumN_one (f := fun g => if KS 54 (g + 1) = nI W then 0 else nN KS 53 (g + 1) + 3) (g := fun g => if K 54 (g + 1) = nI W then 0 else nN K 53 (g + 1) + 3) (i := c - 1) (n := F) (by omega) (fun j _ hj => by
                    show (if KS 54 (j + 1) = nI W then 0 else nN KS 53 (j + 1) + 3) = if K 54 (j + 1) = nI W then 0 else nN K 53 (j + 1) + 3
                    rw [jS 54 (j + 1) (by omega), oT 54 (by decide), nS 53 (j + 1) (by omega), nN_e (oT 53 (by decide))])
                  have q3 : (if KS 54 (c - 1 + 1) = nI W then 0 else nN KS 53 (c - 1 + 1) + 3) = 0 := by rw [show c - 1 + 1 = c by omega, if_pos s54]
                  have q4 : (if K 54 (c - 1 + 1) = nI W then 0 else nN K 53 (c - 1 + 1) + 3) = nN K 53 c + 3 := by rw [show c - 1 + 1 = c by omega, if_neg cv]
                  unfold uw
                  simp only [q3, q4] at q1
                  omega
                have p1 : pw KS (c :: hr :: l) = (nN K 53 c + 2) + pw KT (hr :: l) := by
                  rw [pw, pw_e (K := KT) (hr :: l) (fun p hp => ⟨nS 53 p (fun z => hne (z ▸ hp)), nS 57 p (fun z => hne (z ▸ hp))⟩), n57, nN_e (oS 53 (by omega)), nN_e (oT 53 (by decide))]
                  rfl
                omega
end WLKS
