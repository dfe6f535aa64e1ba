/-! a new stage, on both sides -/
section NSTS
variable {n k F w x y d : Nat} {K K1 K' : MS} {L L' : KL} {M M1 M' : MS} {t h c b : Nat}
theorem updL_at (g : Nat → Int64) (i : Nat) (v : Int64) (j : Nat) : vp_updL g i v j = if j = i then v else g j := rfl
theorem hgO_at {u : Nat} : ∀ (q i : Nat) (g : Nat → Int64) (j : Nat), hgO L u q i g j = if i ≤ j ∧ j < i + q then g j ||| L (1 + u) j else g j
  | 0, i, g, j => by rw [if_neg (by omega)]; rfl
  | q + 1, i, g, j => by
    rw [hgO, hgO_at q (i + 1), updL_at]
    by_cases c : j = i
    · subst c; rw [if_neg (by omega), if_pos rfl, if_pos (by omega)]
    · rw [if_neg c]
      by_cases c2 : i + 1 ≤ j ∧ j < i + 1 + q
      · rw [if_pos c2, if_pos (by omega)]
      · rw [if_neg c2, if_neg (by omega)]
theorem hgAll_at {v : Nat} (hv : v ≤ 200) : ∀ (ls : List Nat) (g : Nat → Int64), bL (hgAll L ls g (v / 64)) (v % 64) = true ↔ bL (g (v / 64)) (v % 64) = true ∨ ∃ s ∈ ls, hgB L s v = true
  | [], g => by rw [hgAll]; exact ⟨Or.inl, fun z => z.elim id (fun ⟨s, a, _⟩ => by cases a)⟩
  | u :: ls, g => by
    rw [hgAll, hgAll_at hv ls, hgO_at, if_pos (by omega), bL_or, Bool.or_eq_true]
    constructor
    · rintro ((z | z) | ⟨s, s1, s2⟩)
      · exact Or.inl z
      · exact Or.inr ⟨u, List.mem_cons_self, z⟩
      · exact Or.inr ⟨s, List.mem_cons_of_mem _ s1, s2⟩
    · rintro (z | ⟨s, s1, s2⟩)
      · exact Or.inl (Or.inl z)
      · rcases List.mem_cons.mp s1 with e | e
        · subst e; exact Or.inl (Or.inr s2)
        · exact Or.inr ⟨s, e, s2⟩
theorem hg0_at {m v : Nat} (hm : m ≤ 200) (hv : v ≤ 200) : bL (hg0 m (v / 64)) (v % 64) = true ↔ v = m := by
  unfold hg0
  rw [updL_at]
  by_cases c : v / 64 = m / 64
  · rw [if_pos c, bL_or, bL_one _ (by omega) _ (by omega), Bool.or_eq_true, decide_eq_true_iff]
    have z : bL 0 (v % 64) = false := by unfold bL; exact BitVec.getLsbD_zero
    rw [z]
    constructor
    · rintro (q | q)
      · cases q
      · omega
    · intro q; subst q; exact Or.inr rfl
  · rw [if_neg c]
    have z : bL 0 (v % 64) = false := by unfold bL; exact BitVec.getLsbD_zero
    rw [z]
    exact ⟨fun q => (by cases q), fun q => by subst q; exact absurd rfl c⟩
theorem hgN_B {ls : List Nat} {v : Nat} (hn : n + 1 ≤ 200) (hv : v ≤ 200) : hgB (upLt L (n + 1) (hgN L (n + 1) ls)) (n + 1) v = true ↔ v = n + 1 ∨ ∃ s ∈ ls, hgB L s v = true := by
  have e : upLt L (n + 1) (hgN L (n + 1) ls) (1 + (n + 1)) = hgN L (n + 1) ls := if_pos rfl
  unfold hgB
  rw [e]
  unfold hgN
  rw [hgAll_at hv, hg0_at hn hv]
  rfl
theorem upLt_B {g : Nat → Int64} {u v : Nat} (hu : u ≤ n) : hgB (upLt L (n + 1) g) u v = hgB L u v := by
  have e : upLt L (n + 1) g (1 + u) = L (1 + u) := if_neg (by omega)
  unfold hgB; rw [e]
theorem upLt_mk {g : Nat → Int64} {v : Nat} : mkB (upLt L (n + 1) g) v = mkB L v := by
  have e : upLt L (n + 1) g 0 = L 0 := if_neg (by omega)
  unfold mkB; rw [e]
theorem srvU_E {K0 : MS} (i : Nat) : ∀ (q j : Nat) (K : MS), NT exK K → (∀ a b, j ≤ a → a < b → b < j + q → iK K0 i a ≠ iK K0 i b) → (∀ a, j ≤ a → a < j + q → nN K 22 (iK K0 i a) + 1 < 2 ^ 31) →
    (∀ u, (∃ a, j ≤ a ∧ a < j + q ∧ iK K0 i a = u) → nN (srvU K0 i q j K) 22 u = nN K 22 u + 1) ∧ (∀ u, ¬ (∃ a, j ≤ a ∧ a < j + q ∧ iK K0 i a = u) → nN (srvU K0 i q j K) 22 u = nN K 22 u) ∧ NT exK (srvU K0 i q j K)
  | 0, j, K, hN, _, _ => ⟨fun u ⟨a, h1, h2, _⟩ => by omega, fun u _ => rfl, hN⟩
  | q + 1, j, K, hN, hd, hp => by
    have hx := hp j (Nat.le_refl _) (by omega)
    have ev : K 22 (iK K0 i j) + nI 1 = nI (nN K 22 (iK K0 i j) + 1) := by rw [hN 22 _ rfl, nI_add]
    have r := srvU_E i q (j + 1) (up2 K 22 (iK K0 i j) (K 22 (iK K0 i j) + nI 1)) (by rw [ev]; exact hN.upn hx) (fun a b h1 h2 h3 => hd a b (by omega) h2 (by omega)) (fun a h1 h2 => by
      rw [ev, nN_sn hx, vu_n (fun q => hd j a (Nat.le_refl _) (by omega) (by omega) q.symm)]; exact hp a (by omega) (by omega))
    rw [srvU]
    rw [ev] at r ⊢
    obtain ⟨r1, r2, r3⟩ := r
    rw [nN_sn hx] at r1 r2
    refine ⟨fun u ⟨a, h1, h2, h3⟩ => ?_, fun u hu => ?_, r3⟩
    · by_cases ha : a = j
      · subst ha
        subst h3
        rw [r2 _ (fun ⟨b, b1, b2, b3⟩ => hd a b (Nat.le_refl _) (by omega) (by omega) b3.symm), vu_s]
      · have := r1 u ⟨a, by omega, by omega, h3⟩
        rw [vu_n (fun q => hd j a (Nat.le_refl _) (by omega) (by omega) (by rw [h3, q]))] at this
        exact this
    · rw [r2 u (fun ⟨a, a1, a2, a3⟩ => hu ⟨a, by omega, by omega, a3⟩), vu_n (fun q => hu ⟨j, Nat.le_refl _, by omega, q.symm⟩)]
/-- the reference with a new stage -/
def NwM (n : Nat) (M M' : MS) (so kd v7 v18 v19 v20 v29 v30 v32 : Nat) (am : Int32) (ls : List Nat) : Prop :=
  (NT exM M' ∧ nN M' 1 0 = n + 1 ∧ nN M' 2 = va_up (nN M 2) (n + 1) so ∧ nN M' 4 = va_up (nN M 4) (n + 1) ls.length ∧ nN M' 5 = va_up (nN M 5) (n + 1) kd ∧ M' 6 = va_up (M 6) (n + 1) am) ∧
  (nN M' 7 = va_up (nN M 7) (n + 1) v7 ∧ nN M' 18 = va_up (nN M 18) (n + 1) v18 ∧ nN M' 19 = va_up (nN M 19) (n + 1) v19 ∧ nN M' 20 = va_up (nN M 20) (n + 1) v20 ∧ nN M' 29 = va_up (nN M 29) (n + 1) v29 ∧ nN M' 30 = va_up (nN M 30) (n + 1) v30 ∧ nN M' 32 = va_up (nN M 32) (n + 1) v32) ∧
  (∀ j, j < ls.length → nN M' 3 (24 * (n + 1) + j) = ls[j]?.getD 0) ∧ (∀ i, i < 24 * (n + 1) → nN M' 3 i = nN M 3 i) ∧ ∀ f, nwF f = false → M' f = M f
/-- the class with a new stage -/
def NwK (n : Nat) (K K' : MS) (st v24 form kind mi pz tm : Nat) (am : Int32) (ls rd : List Nat) : Prop :=
  (NT exK K' ∧ LA K' (n + 1) ∧ nN K' 0 0 = n + 1 ∧ nN K' 5 n = n + 1 ∧ ∀ j, j ≠ n → nN K' 5 j = nN K 5 j) ∧
  ((∀ f u, 10 ≤ f → f < 36 → f ≠ 22 → u ≠ n + 1 → K' f u = K f u) ∧ (∀ u, u ≠ n + 1 → nN K' 22 u = nN K 22 u + (if u ∈ ls then 1 else 0)) ∧ (∀ u, u ≤ n → K' (1000 + u) = K (1000 + u) ∧ K' (2000 + u) = K (2000 + u) ∧ K' (3000 + u) = K (3000 + u))) ∧
  (∀ f, (1 ≤ f ∧ f ≤ 3) ∨ (50 ≤ f ∧ f ≤ 53) ∨ (60 ≤ f ∧ f ≤ 62) ∨ (70 ≤ f ∧ f ≤ 73) ∨ (80 ≤ f ∧ f ≤ 82) ∨ 10000 ≤ f → K' f = K f) ∧
  ((∀ c, 1 ≤ c → c ≤ 13 → lsL K' c = lsL K c) ∧ lsL K' 0 = lsL K 0 ++ rd) ∧
  (nN K' 10 (n + 1) = n + 1 ∧ nN K' 11 (n + 1) = form ∧ nN K' 12 (n + 1) = ls.length ∧ (∀ j, j < ls.length → nN K' (1000 + (n + 1)) j = ls[j]?.getD 0) ∧ nN K' 13 (n + 1) = kind ∧ K' 14 (n + 1) = am) ∧
  (nN K' 16 (n + 1) = st ∧ K' 17 (n + 1) = 0 ∧ nN K' 18 (n + 1) = 0 ∧ nN K' 19 (n + 1) = 0 ∧ nN K' 20 (n + 1) = 0 ∧ K' 21 (n + 1) = -1 ∧ nN K' 22 (n + 1) = 0) ∧
  (nN K' 23 (n + 1) = mi ∧ nN K' 24 (n + 1) = v24 ∧ nN K' 26 (n + 1) = 0 ∧ nN K' 27 (n + 1) = 0 ∧ nN K' 29 (n + 1) = 0 ∧ nN K' 30 (n + 1) = 0 ∧ nN K' 31 (n + 1) = 0 ∧ nN K' 32 (n + 1) = 0 ∧ nN K' 33 (n + 1) = pz ∧ nN K' 34 (n + 1) = tm ∧ nN K' 35 (n + 1) = tm)
theorem NwM.in {so kd v7 v18 v19 v20 v29 v30 v32 : Nat} {am : Int32} {ls : List Nat} (E : NwM n M M' so kd v7 v18 v19 v20 v29 v30 v32 am ls) : inL M' (n + 1) = ls := by
  have e4 : kI M' (n + 1) = ls.length := by show nN M' 4 (n + 1) = _; rw [E.1.2.2.2.1, vu_s]
  rw [inL, e4]
  refine List.ext_getElem (by rw [List.length_map, List.length_range]) (fun j h1 h2 => ?_)
  rw [List.getElem_map, List.getElem_range]
  show nN M' 3 (24 * (n + 1) + j) = _
  rw [E.2.2.1 j h2, List.getElem?_eq_getElem h2, Option.getD_some]
theorem NwM.ino {so kd v7 v18 v19 v20 v29 v30 v32 : Nat} {am : Int32} {ls : List Nat} (hI : Inv n k w x y M) (E : NwM n M M' so kd v7 v18 v19 v20 v29 v30 v32 am ls) {u : Nat} (h1 : 1 ≤ u) (h2 : u ≤ n) : inL M' u = inL M u := by
  have s := hI.s.2 u h1 h2
  have e4 : kI M' u = kI M u := by show nN M' 4 u = nN M 4 u; rw [E.1.2.2.2.1, vu_n (by omega)]
  rw [inL, inL, e4]
  refine List.map_congr_left (fun j hj => ?_)
  have hj' : j < nN M 4 u := List.mem_range.mp hj
  exact E.2.2.2.1 _ (by omega)
theorem Rel.new {so kd v7 v18 v19 v20 v29 v30 v32 st v24 mi pz tm : Nat} {am am' : Int32} {ls rd : List Nat} (hR : Rel n k F K L M) (hI : Inv n k w 0 0 M) (hI' : Inv (n + 1) k w 0 0 M') (hn : n + 1 ≤ 200)
    (E : NwM n M M' so kd v7 v18 v19 v20 v29 v30 v32 am ls) (C : NwK n K K' st v24 (fm so) kd mi pz tm am' ls rd)
    (hst : st = stt so 0 v19) (ham : am' = if so = 5 then nI v7 else if so = 8 then nI v32 else am) (h9 : 9 ≤ so → mi = v18 ∧ pz = v30 ∧ tm = v29 ∧ v19 ≤ 1 ∧ (v19 = 1 → v24 = v20)) (hrd : rd = if 9 ≤ so ∧ v19 = 1 then [n + 1] else [])
    (hL : ∀ v, mkB L v = true → mkB L' v = true) (hH : ∀ u v, u ≤ n → hgB L' u v = hgB L u v) (hH2 : ∀ v, v ≤ 200 → (hgB L' (n + 1) v = true ↔ v = n + 1 ∨ ∃ s ∈ ls, hgB L s v = true)) (h32 : so = 8 → v32 ≤ 10000 → mkB L' v32 = true) : Rel (n + 1) k F K' L' M' := by
  have iT := E.in
  have iU : ∀ u, 1 ≤ u → u ≤ n → inL M' u = inL M u := fun u h1 h2 => E.ino hI h1 h2
  obtain ⟨⟨E0, E1, E2, E4, E5, E6⟩, ⟨E7, E18, E19, E20, E29, E30, E32⟩, E3a, E3b, Eo⟩ := E
  obtain ⟨⟨C0, C1, C2, C3, C4⟩, ⟨C5, C6, C7⟩, C8, ⟨C9, C10⟩, ⟨D10, D11, D12, D1000, D13, D14⟩, ⟨D16, D17, D18, D19, D20, D21, D22⟩, D23, D24, D26, D27, D29, D30, D31, D32, D33, D34, D35⟩ := C
  obtain ⟨r1, r2, r3, r4, r5, r6, r7, r8, r9, r10, r11, r12⟩ := hR
  obtain ⟨a1, a2, a3, a4, a5, a6, a7⟩ := hI.a
  have en : ∀ f, nwF f = false → nN M' f = nN M f := fun f h => nN_e (Eo f h)
  have cn : ∀ f u, 10 ≤ f → f < 36 → f ≠ 22 → u ≠ n + 1 → nN K' f u = nN K f u := fun f u h1 h2 h3 h4 => by unfold nN; rw [C5 f u h1 h2 h3 h4]
  have c8 : ∀ f, (1 ≤ f ∧ f ≤ 3) ∨ (50 ≤ f ∧ f ≤ 53) ∨ (60 ≤ f ∧ f ≤ 62) ∨ (70 ≤ f ∧ f ≤ 73) ∨ (80 ≤ f ∧ f ≤ 82) ∨ 10000 ≤ f → nN K' f = nN K f := fun f h => nN_e (C8 f h)
  obtain ⟨⟨z1, z2, z3, z4, z5, z6, z7, z8⟩, y1, y2, y3, y4, y5, y6, y7⟩ := hI.zz (n + 1) (Or.inr (by omega)) hn
  have t8 : nN M' 8 (n + 1) = 0 := by rw [en 8 rfl]; exact z3
  have hsrv : ∀ u, 1 ≤ u → u ≤ n → srvN M' u = srvN M u + (if u ∈ ls then 1 else 0) := fun u h1 h2 => by
    rw [srvN_S hI'.nt (by omega) E1, srvN_S hI.nt (by omega) a5, show n + 1 - u = (n - u) + 1 by omega, sumN]
    have q := sumN_congr (f := fun j => srvT M' u (u + 1 + j)) (g := fun j => srvT M u (u + 1 + j)) (n := n - u) (fun j hj => by
      show srvT M' u (u + 1 + j) = srvT M u (u + 1 + j)
      unfold srvT; rw [iU _ (by omega) (by omega), en 8 rfl])
    have q2 : srvT M' u (u + 1 + (n - u)) = if u ∈ ls then 1 else 0 := by
      rw [show u + 1 + (n - u) = n + 1 by omega]
      unfold srvT
      rw [iT, t8]
      by_cases c : u ∈ ls
      · rw [if_pos ⟨c, rfl⟩, if_pos c]
      · rw [if_neg (fun z => c z.1), if_neg c]
    rw [q, q2]
  refine ⟨C0, C1, ⟨C2, ?_, ?_, ?_, fun j hj => ?_⟩, fun u h1 h2 => ?_, fun u h1 h2 => ?_, fun u h1 h2 h3 => ?_, ⟨?_, fun g hg => ?_⟩, ⟨fun c h1 h2 => ?_, fun u => ?_, fun c h1 h2 => ?_⟩, ⟨?_, fun j hj => ?_⟩, ⟨?_, ?_, fun j hj => ?_⟩, fun u h1 h2 h3 => ?_, fun u h1 h2 v hv => ?_⟩
  · rw [c8 1 (by omega)]; exact r3.2.1
  · rw [c8 2 (by omega), en 0 rfl]; exact r3.2.2.1
  · rw [c8 3 (by omega), en 16 rfl]; exact r3.2.2.2.1
  · by_cases c : j = n
    · subst c; exact C3
    · rw [C4 j c]; exact r3.2.2.2.2 j (by omega)
  · by_cases c : u = n + 1
    · subst c
      rw [E2, E4, E5, vu_s, vu_s, vu_s, D10, D11, D12, D13, D14, ham, E6, vu_s, hI'.nt 7 _ rfl, hI'.nt 32 _ rfl, E7, E32, vu_s, vu_s, E18, E29, E30, vu_s, vu_s, vu_s, D23, D33, D34, D35]
      refine ⟨rfl, rfl, rfl, fun j hj => ?_, rfl, rfl, fun q => ⟨(h9 q).1, (h9 q).2.1, (h9 q).2.2.1, (h9 q).2.2.1⟩⟩
      rw [D1000 j hj, E3a j hj]
    · have s := r4 u h1 (by omega)
      have si := hI.s.2 u h1 (show u ≤ n by omega)
      rw [cn 10 u (by omega) (by omega) (by omega) c, cn 11 u (by omega) (by omega) (by omega) c, cn 12 u (by omega) (by omega) (by omega) c, cn 13 u (by omega) (by omega) (by omega) c, C5 14 u (by omega) (by omega) (by omega) c, cn 23 u (by omega) (by omega) (by omega) c, cn 33 u (by omega) (by omega) (by omega) c, cn 34 u (by omega) (by omega) (by omega) c, cn 35 u (by omega) (by omega) (by omega) c, E2, E4, E5, vu_n c, vu_n c, vu_n c, E18, E29, E30, vu_n c, vu_n c, vu_n c, E6, vu_n c, hI'.nt 7 _ rfl, hI'.nt 32 _ rfl, E7, E32, vu_n c, vu_n c, ← hI.nt 7 u rfl, ← hI.nt 32 u rfl, nN_e (C7 u (by omega)).1]
      refine ⟨s.1, s.2.1, s.2.2.1, fun j hj => ?_, s.2.2.2.2⟩
      rw [E3b _ (by omega)]; exact s.2.2.2.1 j hj
  · by_cases c : u = n + 1
    · subst c
      have hz : srvN M' (n + 1) = 0 := by rw [srvN_S hI'.nt (by omega) E1, Nat.sub_self]; rfl
      rw [D16, D17, D18, D19, D20, D21, D22, hz, E2, E19, vu_s, vu_s, t8, hst, Eo 11 rfl, Eo 14 rfl, en 9 rfl, en 10 rfl]
      exact ⟨rfl, y6.symm, rfl, z4.symm, z5.symm, y7.symm, rfl⟩
    · have s := r5 u h1 (by omega)
      rw [cn 16 u (by omega) (by omega) (by omega) c, C5 17 u (by omega) (by omega) (by omega) c, cn 18 u (by omega) (by omega) (by omega) c, cn 19 u (by omega) (by omega) (by omega) c, cn 20 u (by omega) (by omega) (by omega) c, C5 21 u (by omega) (by omega) (by omega) c, C6 u c, hsrv u h1 (by omega), E2, E19, vu_n c, vu_n c, en 8 rfl, en 12 rfl, en 9 rfl, en 10 rfl, Eo 11 rfl, Eo 14 rfl]
      exact ⟨s.1, s.2.1, s.2.2.1, s.2.2.2.1, s.2.2.2.2.1, s.2.2.2.2.2.1, by rw [s.2.2.2.2.2.2]⟩
  · by_cases c : u = n + 1
    · subst c
      rw [E2, vu_s] at h3
      obtain ⟨g1, g2, g3, g4, g5⟩ := h9 h3
      have t27 : nN M' 27 (n + 1) = 0 := by rw [en 27 rfl]; exact y3
      have t19 : nN M' 19 (n + 1) = v19 := by rw [E19, vu_s]
      refine ⟨⟨by rw [D26, en 22 rfl]; exact z8.symm, by rw [D27, en 21 rfl]; exact z7.symm, by rw [D29, en 26 rfl]; exact y2.symm, by rw [D30, en 25 rfl]; exact y1.symm, by rw [D32, t27]⟩, ?_, fun _ => ⟨fun q => ?_, fun q => by omega, fun q => by omega⟩, fun j hj => by omega⟩
      · rw [D31, if_neg (fun z => by rw [t19] at z; omega)]
      · rw [D24, E20, vu_s]; exact g5 (by omega)
    · rw [E2, vu_n c] at h3
      have s := r6 u h1 (by omega) h3
      unfold qW1 at *
      rw [cn 26 u (by omega) (by omega) (by omega) c, cn 27 u (by omega) (by omega) (by omega) c, cn 29 u (by omega) (by omega) (by omega) c, cn 30 u (by omega) (by omega) (by omega) c, cn 32 u (by omega) (by omega) (by omega) c, cn 31 u (by omega) (by omega) (by omega) c, cn 24 u (by omega) (by omega) (by omega) c, cn 25 u (by omega) (by omega) (by omega) c, cn 28 u (by omega) (by omega) (by omega) c, en 22 rfl, en 21 rfl, en 26 rfl, en 25 rfl, en 27 rfl, en 8 rfl, E19, vu_n c, E20, vu_n c, en 23 rfl, en 24 rfl, en 28 rfl, en 31 rfl, nN_e (C7 u (by omega)).2.1, nN_e (C7 u (by omega)).2.2]
      exact s
  · rw [en 38 rfl]; exact r7.1
  · have s := r7.2 g hg
    rw [c8 50 (by omega), c8 51 (by omega), C8 52 (by omega), c8 53 (by omega), c8 (10000 + (g + 1)) (by omega), en 33 rfl, en 34 rfl, Eo 35 rfl, en 36 rfl, en 37 rfl, en 39 rfl]
    exact s
  · rw [C9 c h1 (by omega), pl_e (Eo 46 rfl) (Eo 47 rfl), c8 60 (by omega)]; exact r8.1 c h1 h2
  · rw [C10, List.mem_append, r8.2.1 u, E2, en 8 rfl, E19, hrd]
    constructor
    · rintro (⟨q1, q2, q3, q4⟩ | q)
      · rw [vu_n (by omega), vu_n (by omega)]; exact ⟨by omega, q2, q3, q4⟩
      · by_cases c : 9 ≤ so ∧ v19 = 1
        · rw [if_pos c] at q
          have : u = n + 1 := by simpa using q
          subst this
          rw [vu_s, vu_s]; exact ⟨by omega, c.1, z3, c.2⟩
        · rw [if_neg c] at q; cases q
    · rintro ⟨q1, q2, q3, q4⟩
      by_cases c : u = n + 1
      · subst c
        rw [vu_s] at q2 q4
        right
        rw [if_pos ⟨q2, q4⟩]; exact List.mem_singleton.mpr rfl
      · rw [vu_n c] at q2 q4
        exact Or.inl ⟨by omega, q2, q3, q4⟩
  · rw [C8 61 (by omega), C8 62 (by omega), Eo 48 rfl, Eo 49 rfl]; exact r8.2.2 c h1 h2
  · rw [c8 70 (by omega), en 44 rfl]; exact r9.1
  · rw [en 44 rfl] at hj
    rw [c8 71 (by omega), c8 72 (by omega), c8 73 (by omega), en 41 rfl, en 42 rfl, en 43 rfl]; exact r9.2 j hj
  · rw [c8 80 (by omega), en 53 rfl]; exact r10.1
  · rw [c8 80 (by omega), c8 81 (by omega)]; exact r10.2.1
  · rw [en 53 rfl] at hj
    rw [c8 82 (by omega), en 50 rfl, en 51 rfl, en 52 rfl]; exact r10.2.2 j hj
  · by_cases c : u = n + 1
    · subst c
      rw [E2, E19, E32, vu_s, vu_s, vu_s, Eo 14 rfl]
      refine ⟨fun v hv q => ?_, h32, fun q => ⟨fun z => by have := (h9 q).2.2.2.1; omega, fun z => by have := (h9 q).2.2.2.1; omega⟩⟩
      rw [y7] at q
      exact absurd q.symm (nI_ne_m1 (by omega))
    · rw [en 8 rfl] at h3
      obtain ⟨g1, g2, g3⟩ := r11 u h1 (by omega) h3
      rw [E2, E19, E32, vu_n c, vu_n c, vu_n c, Eo 14 rfl, en 23 rfl, en 27 rfl, en 28 rfl]
      exact ⟨fun v hv q => hL _ (g1 v hv q), fun p q => hL _ (g2 p q), fun p => ⟨fun a b => hL _ ((g3 p).1 a b), fun a b => hL _ ((g3 p).2 a b)⟩⟩
  · by_cases c : u = n + 1
    · subst c
      rw [iT, hH2 v hv]
      constructor
      · rintro (q | ⟨s, s1, s2⟩)
        · exact Or.inl q
        · have b := inL_b hI'.s (show 1 ≤ n + 1 by omega) (Nat.le_refl _) (s := s) (by rw [iT]; exact s1)
          exact Or.inr ⟨s, s1, by rw [hH s v (by omega)]; exact s2⟩
      · rintro (q | ⟨s, s1, s2⟩)
        · exact Or.inl q
        · have b := inL_b hI'.s (show 1 ≤ n + 1 by omega) (Nat.le_refl _) (s := s) (by rw [iT]; exact s1)
          exact Or.inr ⟨s, s1, by rw [hH s v (by omega)] at s2; exact s2⟩
    · rw [iU u h1 (by omega), hH u v (by omega), r12 u h1 (by omega) v hv]
      constructor
      · rintro (q | ⟨s, s1, s2⟩)
        · exact Or.inl q
        · have b := inL_b hI.s h1 (show u ≤ n by omega) s1
          exact Or.inr ⟨s, s1, by rw [hH s v (by omega)]; exact s2⟩
      · rintro (q | ⟨s, s1, s2⟩)
        · exact Or.inl q
        · have b := inL_b hI.s h1 (show u ≤ n by omega) s1
          exact Or.inr ⟨s, s1, by rw [hH s v (by omega)] at s2; exact s2⟩
end NSTS
