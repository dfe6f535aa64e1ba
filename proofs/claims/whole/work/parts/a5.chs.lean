/-! choosing, on both sides -/
section CHSS
variable {n k F w x y : Nat} {K K1 K' : MS} {L L' : KL} {M M1 M' : MS} {t h : Nat}
/-- a is ahead of b -/
def ahP (f : Nat → Nat) (a b : Nat) : Prop := f a < f b ∨ (f a = f b ∧ b < a)
theorem ahP.tr {f : Nat → Nat} {a b c : Nat} (h1 : ahP f a b) (h2 : ahP f b c) : ahP f a c := by unfold ahP at *; omega
theorem ahP.as {f : Nat → Nat} {a b : Nat} (h1 : ahP f a b) (h2 : ahP f b a) : False := by unfold ahP at *; omega
def bst (f : Nat → Nat) (P : Nat → Prop) (r : Nat) : Prop := (r = 0 ∧ ∀ u, ¬ P u) ∨ (r ≠ 0 ∧ P r ∧ ∀ u, P u → u = r ∨ ahP f r u)
theorem bst.uniq {f : Nat → Nat} {P Q : Nat → Prop} {r s : Nat} (hPQ : ∀ u, P u ↔ Q u) (h1 : bst f P r) (h2 : bst f Q s) : r = s := by
  rcases h1 with ⟨a1, a2⟩ | ⟨a1, a2, a3⟩
  · rcases h2 with ⟨b1, b2⟩ | ⟨b1, b2, b3⟩
    · omega
    · exact absurd ((hPQ s).mpr b2) (a2 s)
  · rcases h2 with ⟨b1, b2⟩ | ⟨b1, b2, b3⟩
    · exact absurd ((hPQ r).mp a2) (b2 r)
    · rcases a3 s ((hPQ s).mpr b2) with e | e
      · exact e.symm
      · rcases b3 r ((hPQ r).mp a2) with e2 | e2
        · exact e2
        · exact absurd e2 (fun z => e.as z)
/-- a step of choosing keeps the best so far -/
theorem bst.take {f : Nat → Nat} {P : Nat → Prop} {b u : Nat} (h : bst f P b) (hu : u ≠ 0) (hb : b = 0 ∨ ahP f u b) : bst f (fun v => P v ∨ v = u) u := by
  refine Or.inr ⟨hu, Or.inr rfl, fun v hv => ?_⟩
  rcases hv with hv | hv
  · rcases h with ⟨h1, h2⟩ | ⟨h1, h2, h3⟩
    · exact absurd hv (h2 v)
    · have hb' : ahP f u b := hb.elim (fun z => absurd z h1) id
      rcases h3 v hv with e | e
      · subst e; exact Or.inr hb'
      · exact Or.inr (hb'.tr e)
  · exact Or.inl hv
theorem bst.keep {f : Nat → Nat} {P : Nat → Prop} {b u : Nat} (h : bst f P b) (h0 : b ≠ 0) (hb : ¬ ahP f u b) : bst f (fun v => P v ∨ v = u) b := by
  rcases h with ⟨h1, h2⟩ | ⟨h1, h2, h3⟩
  · exact absurd h1 h0
  · refine Or.inr ⟨h1, Or.inl h2, fun v hv => ?_⟩
    rcases hv with hv | hv
    · exact h3 v hv
    · subst hv; unfold ahP at *; omega
theorem bst.cg {f : Nat → Nat} {P Q : Nat → Prop} {r : Nat} (hPQ : ∀ u, P u ↔ Q u) (h : bst f P r) : bst f Q r := by
  rcases h with ⟨a1, a2⟩ | ⟨a1, a2, a3⟩
  · exact Or.inl ⟨a1, fun u hu => a2 u ((hPQ u).mpr hu)⟩
  · exact Or.inr ⟨a1, (hPQ r).mp a2, fun u hu => a3 u ((hPQ u).mpr hu)⟩
theorem chF_bst {aw : Nat} (f : Nat → Nat) : ∀ (l : List Nat) (b : Nat) (P : Nat → Prop), (∀ u ∈ l, u ≠ 0) → (∀ u v, (u ∈ l ∨ P u) → (v ∈ l ∨ P v) → (ahB K u v = true ↔ ahP f u v)) → bst f P b → bst f (fun v => P v ∨ (v ∈ l ∧ chB L aw v = true)) (chF K L aw l b)
  | [], b, P, _, _, hb => by rw [chF]; exact hb.cg (fun u => ⟨Or.inl, fun z => z.elim id (fun z => by cases z.1)⟩)
  | u :: l, b, P, h0, ha, hb => by
    rw [chF]
    have hu := h0 u (List.mem_cons_self)
    by_cases c : chB L aw u = true
    · have hb2 : bst f (fun v => P v ∨ v = u) (if chB L aw u = true ∧ (b = 0 ∨ ahB K u b = true) then u else b) := by
        by_cases c2 : b = 0 ∨ ahB K u b = true
        · rw [if_pos ⟨c, c2⟩]
          refine hb.take hu ?_
          by_cases c3 : b = 0
          · exact Or.inl c3
          · have hPb : P b := by rcases hb with ⟨z, _⟩ | ⟨_, z, _⟩; exact absurd z c3; exact z
            exact Or.inr ((ha u b (Or.inl List.mem_cons_self) (Or.inr hPb)).mp (c2.elim (fun z => absurd z c3) id))
        · rw [if_neg (fun z => c2 z.2)]
          have c3 : b ≠ 0 := fun z => c2 (Or.inl z)
          have hPb : P b := by rcases hb with ⟨z, _⟩ | ⟨_, z, _⟩; exact absurd z c3; exact z
          exact hb.keep c3 (fun z => c2 (Or.inr ((ha u b (Or.inl List.mem_cons_self) (Or.inr hPb)).mpr z)))
      have r := chF_bst (aw := aw) f l _ (fun v => P v ∨ v = u) (fun v hv => h0 v (List.mem_cons_of_mem _ hv)) (fun v z hv hz => ha v z (hv.elim (fun q => Or.inl (List.mem_cons_of_mem _ q)) (fun q => q.elim Or.inr (fun q => Or.inl (q ▸ List.mem_cons_self)))) (hz.elim (fun q => Or.inl (List.mem_cons_of_mem _ q)) (fun q => q.elim Or.inr (fun q => Or.inl (q ▸ List.mem_cons_self))))) hb2
      refine r.cg (fun v => ⟨fun z => ?_, fun z => ?_⟩)
      · rcases z with (z | z) | z
        · exact Or.inl z
        · subst z; exact Or.inr ⟨List.mem_cons_self, c⟩
        · exact Or.inr ⟨List.mem_cons_of_mem _ z.1, z.2⟩
      · rcases z with z | ⟨z1, z2⟩
        · exact Or.inl (Or.inl z)
        · rcases List.mem_cons.mp z1 with e | e
          · exact Or.inl (Or.inr e)
          · exact Or.inr ⟨e, z2⟩
    · rw [if_neg (fun z => c z.1)]
      have r := chF_bst (aw := aw) f l b P (fun v hv => h0 v (List.mem_cons_of_mem _ hv)) (fun v z hv hz => ha v z (hv.elim (fun q => Or.inl (List.mem_cons_of_mem _ q)) Or.inr) (hz.elim (fun q => Or.inl (List.mem_cons_of_mem _ q)) Or.inr)) hb
      refine r.cg (fun v => ⟨fun z => z.elim Or.inl (fun z => Or.inr ⟨List.mem_cons_of_mem _ z.1, z.2⟩), fun z => ?_⟩)
      rcases z with z | ⟨z1, z2⟩
      · exact Or.inl z
      · rcases List.mem_cons.mp z1 with e | e
        · subst e; exact absurd z2 c
        · exact Or.inr ⟨e, z2⟩
theorem bstF_bst (hN : NT exM M) {u : Nat} : ∀ (q t b : Nat) (P : Nat → Prop), 1 ≤ t → b < t → bst (nN M 20) P b → bst (nN M 20) (fun v => P v ∨ ((t ≤ v ∧ v < t + q) ∧ mayB M u v = true)) (bstF M u q t b)
  | 0, t, b, P, _, _, hb => by rw [bstF]; exact hb.cg (fun v => ⟨Or.inl, fun z => z.elim id (fun z => by omega)⟩)
  | q + 1, t, b, P, h1, hbt, hb => by
    rw [bstF]
    have ah : M 20 t ≤ M 20 b ↔ ahP (nN M 20) t b := by rw [hN.l2 rfl rfl]; unfold ahP; omega
    by_cases c : mayB M u t = true
    · have hb2 : bst (nN M 20) (fun v => P v ∨ v = t) (if mayB M u t = true ∧ (b = 0 ∨ M 20 t ≤ M 20 b) then t else b) ∧ (if mayB M u t = true ∧ (b = 0 ∨ M 20 t ≤ M 20 b) then t else b) < t + 1 := by
        by_cases c2 : b = 0 ∨ M 20 t ≤ M 20 b
        · rw [if_pos ⟨c, c2⟩]
          exact ⟨hb.take (by omega) (c2.elim Or.inl (fun z => Or.inr (ah.mp z))), by omega⟩
        · rw [if_neg (fun z => c2 z.2)]
          exact ⟨hb.keep (fun z => c2 (Or.inl z)) (fun z => c2 (Or.inr (ah.mpr z))), by omega⟩
      have r := bstF_bst hN (u := u) q (t + 1) _ (fun v => P v ∨ v = t) (by omega) hb2.2 hb2.1
      refine r.cg (fun v => ⟨fun z => ?_, fun z => ?_⟩)
      · rcases z with (z | z) | z
        · exact Or.inl z
        · subst z; exact Or.inr ⟨by omega, c⟩
        · exact Or.inr ⟨by omega, z.2⟩
      · rcases z with z | ⟨z1, z2⟩
        · exact Or.inl (Or.inl z)
        · by_cases e : v = t
          · exact Or.inl (Or.inr e)
          · exact Or.inr ⟨by omega, z2⟩
    · rw [if_neg (fun z => c z.1)]
      have r := bstF_bst hN (u := u) q (t + 1) b P (by omega) (by omega) hb
      refine r.cg (fun v => ⟨fun z => z.elim Or.inl (fun z => Or.inr ⟨by omega, z.2⟩), fun z => ?_⟩)
      rcases z with z | ⟨z1, z2⟩
      · exact Or.inl z
      · by_cases e : v = t
        · subst e; exact absurd z2 c
        · exact Or.inr ⟨by omega, z2⟩
/-! what hangs on a stage -/
theorem hgA_at (u : Nat) : ∀ (q t : Nat) (M : MS) (v : Nat), hgA u q t M 56 v = if t ≤ v ∧ v < t + q then bI (decide (v = u)) else M 56 v
  | 0, t, M, v => by rw [if_neg (by omega)]; rfl
  | q + 1, t, M, v => by
    rw [hgA, hgA_at u q (t + 1)]
    by_cases c : v = t
    · subst c; rw [if_neg (by omega), if_pos (by omega), up2_s]
    · rw [up2_n (by omega)]
      by_cases c2 : t + 1 ≤ v ∧ v < t + 1 + q
      · rw [if_pos c2, if_pos (by omega)]
      · rw [if_neg c2, if_neg (by omega)]
theorem hgI_at (t : Nat) : ∀ (q j : Nat) (M : MS) (v : Nat), (¬ hgI t q j M 56 v = 0) ↔ (¬ M 56 v = 0) ∨ ∃ i, j ≤ i ∧ i < j + q ∧ iN M t i = v
  | 0, j, M, v => by
    rw [hgI]
    exact ⟨Or.inl, fun z => z.elim id (fun ⟨i, a, b, _⟩ => by omega)⟩
  | q + 1, j, M, v => by
    rw [hgI, hgI_at t q (j + 1)]
    have ei : ∀ i, iN (up2 M 56 (iN M t j) (nI 1)) t i = iN M t i := fun i => by unfold iN; rw [nN_f (by decide)]
    have e1 : (¬ up2 M 56 (iN M t j) (nI 1) 56 v = 0) ↔ (¬ M 56 v = 0) ∨ iN M t j = v := by
      by_cases c : v = iN M t j
      · subst c; rw [up2_s]; exact ⟨fun _ => Or.inr rfl, fun _ => by decide⟩
      · rw [up2_n (by omega)]; exact ⟨Or.inl, fun z => z.elim id (fun z => absurd z.symm c)⟩
    rw [e1]
    constructor
    · rintro ((z | z) | ⟨i, a, b, z⟩)
      · exact Or.inl z
      · exact Or.inr ⟨j, by omega, by omega, z⟩
      · exact Or.inr ⟨i, by omega, by omega, by rw [ei] at z; exact z⟩
    · rintro (z | ⟨i, a, b, z⟩)
      · exact Or.inl (Or.inl z)
      · by_cases c : i = j
        · subst c; exact Or.inl (Or.inr z)
        · exact Or.inr ⟨i, by omega, by omega, by rw [ei]; exact z⟩
theorem hgC_at (hI : Inv n k w x y M) (hq : qH n L M) {u : Nat} : ∀ (t : Nat) (M1 : MS), t ≤ n → M1 3 = M 3 → M1 4 = M 4 → (∀ v, 1 ≤ v → v ≤ n → (hgB L u v = true ↔ (t < v ∧ ¬ M1 56 v = 0) ∨ ∃ s, 1 ≤ s ∧ s ≤ t ∧ (¬ M1 56 s = 0) ∧ hgB L s v = true)) → ∀ v, 1 ≤ v → v ≤ n → (hgB L u v = true ↔ ¬ hgC t M1 56 v = 0)
  | 0, M1, _, _, _, h, v, h1, h2 => by
    rw [hgC, h v h1 h2]
    exact ⟨fun z => z.elim (fun z => z.2) (fun ⟨s, a, b, _⟩ => by omega), fun z => Or.inl ⟨by omega, z⟩⟩
  | t + 1, M1, ht, e3, e4, h, v, h1, h2 => by
    rw [hgC]
    have hn := hI.a.1
    by_cases c : M1 56 (t + 1) = 0
    · rw [if_pos c]
      refine hgC_at hI hq t M1 (by omega) e3 e4 (fun v h1 h2 => ?_) v h1 h2
      rw [h v h1 h2]
      constructor
      · rintro (z | ⟨s, a, b, z1, z2⟩)
        · exact Or.inl ⟨by omega, z.2⟩
        · exact Or.inr ⟨s, a, by rcases Nat.lt_or_ge s (t + 1) with q | q; omega; exact absurd c (show s = t + 1 by omega ▸ z1), z1, z2⟩
      · rintro (z | ⟨s, a, b, z1, z2⟩)
        · exact Or.inl ⟨by rcases Nat.lt_or_ge (t + 1) v with q | q; exact q; exact absurd c (show v = t + 1 by omega ▸ z.2), z.2⟩
        · exact Or.inr ⟨s, a, by omega, z1, z2⟩
    · rw [if_neg c]
      have hk : kI M1 (t + 1) = nN M 4 (t + 1) := by show nN M1 4 (t + 1) = _; rw [nN_e e4]
      have hin : ∀ s, (∃ i, 0 ≤ i ∧ i < 0 + kI M1 (t + 1) ∧ iN M1 (t + 1) i = s) ↔ s ∈ inL M (t + 1) := fun s => by
        rw [inL_mem, hk]
        have ei : ∀ i, iN M1 (t + 1) i = iN M (t + 1) i := fun i => by unfold iN; rw [nN_e e3]
        exact ⟨fun ⟨i, _, a, b⟩ => ⟨i, by omega, (ei i).symm.trans b⟩, fun ⟨i, a, b⟩ => ⟨i, by omega, by omega, (ei i).trans b⟩⟩
      have X : ∀ s, (¬ hgI (t + 1) (kI M1 (t + 1)) 0 M1 56 s = 0) ↔ (¬ M1 56 s = 0) ∨ s ∈ inL M (t + 1) := fun s => by rw [hgI_at, hin]
      refine hgC_at hI hq t _ (by omega) (by rw [hgI_o _ _ _ _ _ (by decide)]; exact e3) (by rw [hgI_o _ _ _ _ _ (by decide)]; exact e4) (fun v h1 h2 => ?_) v h1 h2
      rw [h v h1 h2]
      have q1 := hq (t + 1) (by omega) ht v (by omega)
      constructor
      · rintro (z | ⟨s, a, b, z1, z2⟩)
        · exact Or.inl ⟨by omega, (X v).mpr (Or.inl z.2)⟩
        · by_cases e : s = t + 1
          · subst e
            rcases q1.mp z2 with e | ⟨s, s1, s2⟩
            · exact Or.inl ⟨by omega, (X v).mpr (Or.inl (e ▸ z1))⟩
            · have b := inL_b hI.s (show 1 ≤ t + 1 by omega) ht s1
              exact Or.inr ⟨s, b.1, by omega, (X s).mpr (Or.inr s1), s2⟩
          · exact Or.inr ⟨s, a, by omega, (X s).mpr (Or.inl z1), z2⟩
      · rintro (z | ⟨s, a, b, z1, z2⟩)
        · rcases (X v).mp z.2 with q | q
          · by_cases e : v = t + 1
            · exact Or.inr ⟨t + 1, by omega, by omega, c, q1.mpr (Or.inl e)⟩
            · exact Or.inl ⟨by omega, q⟩
          · have b := inL_b hI.s (show 1 ≤ t + 1 by omega) ht q
            omega
        · rcases (X s).mp z1 with q | q
          · exact Or.inr ⟨s, a, by omega, q, z2⟩
          · exact Or.inr ⟨t + 1, by omega, by omega, c, q1.mpr (Or.inr ⟨s, q, z2⟩)⟩
theorem hang_iff (hI : Inv n k w x y M) (hq : qH n L M) {u v : Nat} (h1u : 1 ≤ u) (hu : u ≤ n) (h1v : 1 ≤ v) (hv : v ≤ n) : hgB L u v = true ↔ ¬ hangM n M u 56 v = 0 := by
  unfold hangM
  refine hgC_at hI hq u _ hu (hgA_o _ _ _ _ _ (by decide)) (hgA_o _ _ _ _ _ (by decide)) (fun v h1 h2 => ?_) v h1v hv
  have a : ∀ s, 1 ≤ s → s ≤ n → ((¬ hgA u n 1 M 56 s = 0) ↔ s = u) := fun s s1 s2 => by
    rw [hgA_at, if_pos (by omega)]
    by_cases c : s = u
    · rw [decide_eq_true c]; exact ⟨fun _ => c, fun _ => by decide⟩
    · rw [decide_eq_false c]; exact ⟨fun z => absurd rfl z, fun z => absurd z c⟩
  constructor
  · intro z
    exact Or.inr ⟨u, h1u, Nat.le_refl _, (a u h1u hu).mpr rfl, z⟩
  · rintro (z | ⟨s, s1, s2, s3, s4⟩)
    · have := (a v h1 h2).mp z.2; omega
    · have := (a s s1 (by omega)).mp s3
      subst this; exact s4
theorem chs_sim (hR : Rel n k F K L M) (hI : Inv n k w x y M) {u : Nat} (hu : u ≤ n) : chsK K L u = bstN n (tkH n M u) u := by
  have a1 := hI.a.1
  have rd := hR.p.2.1
  have e20 : nN (tkH n M u) 20 = nN M 20 := nN_e (tkH_o (by decide))
  have B1 : bst (nN M 20) (fun v => False ∨ (v ∈ lsL K 0 ∧ chB L u v = true)) (chsK K L u) := by
    refine chF_bst (nN M 20) (lsL K 0) 0 (fun _ => False) (fun v hv => by have := (rd v).mp hv; omega) (fun a b ha hb => ?_) (Or.inl ⟨rfl, fun _ z => z⟩)
    have ha := (rd a).mp (ha.elim id False.elim)
    have hb := (rd b).mp (hb.elim id False.elim)
    have k24 : ∀ z, (1 ≤ z ∧ z ≤ n) ∧ 9 ≤ nN M 2 z ∧ nN M 8 z = 0 ∧ nN M 19 z = 1 → nN K 24 z = nN M 20 z ∧ nN K 10 z = z := fun z hz => ⟨((hR.w z hz.1.1 hz.1.2 hz.2.1).2.2.1 hz.2.2.1).1 hz.2.2.2, (hR.s z hz.1.1 hz.1.2).1⟩
    obtain ⟨ka, ka'⟩ := k24 a ha
    obtain ⟨kb, kb'⟩ := k24 b hb
    have ee : K 24 a = K 24 b ↔ nN M 20 a = nN M 20 b := by rw [hR.nt.e2 rfl rfl, ka, kb]
    unfold ahB ahP
    by_cases c : nN M 20 a = nN M 20 b
    · rw [if_pos (ee.mpr c), decide_eq_true_iff, hR.nt.lt2 rfl rfl, ka', kb']; omega
    · rw [if_neg (fun z => c (ee.mp z)), decide_eq_true_iff, hR.nt.lt2 rfl rfl, ka, kb]; omega
  have B2 : bst (nN (tkH n M u) 20) (fun v => False ∨ ((1 ≤ v ∧ v < 1 + n) ∧ mayB (tkH n M u) u v = true)) (bstN n (tkH n M u) u) :=
    bstF_bst (tkH_nt hI.nt) n 1 0 (fun _ => False) (Nat.le_refl _) (by decide) (Or.inl ⟨rfl, fun _ z => z⟩)
  rw [e20] at B2
  refine B1.uniq (fun v => ?_) B2
  have key : (1 ≤ v ∧ v ≤ n) → (chB L u v = true ↔ (u = 0 ∨ nN (tkH n M u) 56 v ≠ 0)) := fun hv => by
    unfold chB
    rw [Bool.or_eq_true, decide_eq_true_iff]
    by_cases c : u = 0
    · exact ⟨fun _ => Or.inl c, fun _ => Or.inl c⟩
    · have e : tkH n M u = hangM n M u := by unfold tkH; rw [if_neg c]
      rw [hang_iff hI hR.hh (show 1 ≤ u by omega) hu hv.1 hv.2, e, ← e, (tkH_nt hI.nt).z rfl]
  rw [may_iff (tkH_nt hI.nt), nN_e (tkH_o (by decide)), nN_e (tkH_o (by decide)), nN_e (tkH_o (by decide)), rd]
  constructor
  · rintro (z | ⟨⟨z1, z2, z3, z4⟩, z5⟩)
    · exact z.elim
    · exact Or.inr ⟨by omega, z2, z3, z4, (key z1).mp z5⟩
  · rintro (z | ⟨z1, z2, z3, z4, z5⟩)
    · exact z.elim
    · exact Or.inr ⟨⟨by omega, z2, z3, z4⟩, (key (by omega)).mpr z5⟩
end CHSS
