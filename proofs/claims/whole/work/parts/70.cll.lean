/-! the class: choose, take -/
section CLL
section BW
variable {Y : YT} {G : GH} {A : AS} {n F : Nat} {K : MS} {L : KL}
def bwK (K : MS) (i : Nat) (x : Int32) : MS := up2 (up2 (up2 (up2 (up2 K 28 i (bI (decide (K 11 i = nI 3)))) 27 i (K 27 i + nI 1)) 26 i x) 25 i (x + (if K 11 i = nI 3 then K 23 i / nI 2 else K 23 i))) 16 i (nI 2)
theorem KR.bw (h : KR Y G A n F K L) {i : Nat} (hi : 1 ≤ i ∧ i ≤ n) (hw : isWK K i = true) (x : Int32) : KR Y (va_up G (A 1 i) (some (stC true (bwS (sgK K i) x) (rhK A K i)))) A n F (bwK K i x) L := by
  have h1 := h.pW hi hw 18 (bI (decide (K 11 i = nI 3))) rfl
  have h2 := h1.pW hi hw 17 (K 27 i + nI 1) rfl
  rw [bx_uu, sgK_up] at h2
  have h3 := h2.pW hi hw 16 x rfl
  rw [bx_uu, sgK_up, sgK_up] at h3
  have h4 := h3.pW hi hw 15 (x + (if K 11 i = nI 3 then K 23 i / nI 2 else K 23 i)) rfl
  rw [bx_uu, sgK_up, sgK_up, sgK_up] at h4
  have h5 := h4.pW hi hw 6 (nI 2) rfl
  rw [bx_uu, sgK_up, sgK_up, sgK_up, sgK_up] at h5
  exact h5
def bsK (K : MS) (i : Nat) (x : Int32) : MS := up2 (up2 (up2 K 28 i (nI 0)) 25 i (x + K 23 i - K 23 i / nI 2)) 16 i (nI 2)
theorem KR.bs (h : KR Y G A n F K L) {i : Nat} (hi : 1 ≤ i ∧ i ≤ n) (hw : isWK K i = true) (x : Int32) : KR Y (va_up G (A 1 i) (some (stC true (upd (upd (upd (sgK K i) 18 (nI 0)) 15 (x + sgK K i 13 - sgK K i 13 / nI 2)) 6 (nI 2)) (rhK A K i)))) A n F (bsK K i x) L := by
  have h1 := h.pW hi hw 18 (nI 0) rfl
  have h2 := h1.pW hi hw 15 (x + K 23 i - K 23 i / nI 2) rfl
  rw [bx_uu, sgK_up] at h2
  have h3 := h2.pW hi hw 6 (nI 2) rfl
  rw [bx_uu, sgK_up, sgK_up] at h3
  exact h3
end BW
variable {l : Launch} {Y : YT}
def chB (L : KL) (aw u : Nat) : Bool := decide (aw = 0) || hgB L aw u
def ahB (K : MS) (u b : Nat) : Bool := if K 24 u = K 24 b then decide (K 10 b < K 10 u) else decide (K 24 u < K 24 b)
def chF (K : MS) (L : KL) (aw : Nat) : List Nat → Nat → Nat
  | [], b => b
  | u :: t, b => chF K L aw t (if chB L aw u = true ∧ (b = 0 ∨ ahB K u b = true) then u else b)
/-- which of the ready works is the next (0: none) -/
def chsK (K : MS) (L : KL) (aw : Nat) : Nat := chF K L aw (lsL K 0) 0
theorem chF_in (K : MS) (L : KL) (aw : Nat) : ∀ (l : List Nat) (b : Nat), chF K L aw l b = b ∨ chF K L aw l b ∈ l
  | [], _ => Or.inl rfl
  | u :: t, b => by
    rw [chF]
    split
    · rcases chF_in K L aw t u with h | h
      · rw [h]; exact Or.inr List.mem_cons_self
      · exact Or.inr (List.mem_cons_of_mem _ h)
    · exact (chF_in K L aw t b).imp id (List.mem_cons_of_mem _)
/-- the ready works are works -/
def rdOk (K : MS) (n : Nat) : Prop := LOk K n 0 ∧ ∀ u ∈ lsL K 0, isWK K u = true ∧ K 10 u = nI u
theorem chs_in {K : MS} {L : KL} {aw n : Nat} (h : rdOk K n) (h0 : chsK K L aw ≠ 0) : chsK K L aw ∈ lsL K 0 ∧ (1 ≤ chsK K L aw ∧ chsK K L aw ≤ n) ∧ isWK K (chsK K L aw) = true := by
  have hm : chsK K L aw ∈ lsL K 0 := (chF_in K L aw (lsL K 0) 0).resolve_left h0
  exact ⟨hm, h.1.2.2.2.2.1 _ hm, (h.2 _ hm).1⟩
set_option maxHeartbeats 2000000 in
theorem k_choose (d : Nat) (G : GH) (A : AS) (n F : Nat) (K : MS) (L : KL) (aw : Nat) (hR : KR Y G A n F K L) (haw : aw ≤ n) (hr : rdOk K n) : Cd l yX8_choose cX8_choose 5 (some (.object "PromiseKitchen$Work")) (d + 3) 0 0 Y [.inr (.inr (some (A 0 0))), .inr (.inr (opS A aw))] G (fun r G' => G' = G ∧ r = some (.inr (.inr (opS A (chsK K L aw))))) := by
  refine Ct.of (ini := False) (by decide +kernel) False.elim rfl (Nat.le_of_ble_eq_true rfl) ?_
  intro p e s m args below meth c C X
  have hn := hR.2.2.1
  obtain ⟨hl, hw⟩ := hr
  have hcp := hl.2.2.1
  have hlc := hl.2.1
  have hls := hR.ls (by decide) hl
  refine b_X8_choose_0.go C ⟨trivial, ?_⟩
  refine (show ∀ (q j b : Nat) (o : Option AV), j + q = (lsL K 0).length → (b = 0 ∨ (1 ≤ b ∧ b ≤ n ∧ isWK K b = true)) → chsK K L aw = chF K L aw ((lsL K 0).drop j) b → V p l e (RM (d + 3) 0 0) s m args below meth c Y (GA G s.heap.size) (QM below args s (RM (d + 3) 0 0) Y G (fun r G' => G' = G ∧ r = some (.inr (.inr (opS A (chsK K L aw)))))) 4 G 0 0 [some (.inr (.inr (some (A 0 0)))), some (.inr (.inr (opS A aw))), some (.inr (.inr (opS A b))), some (.inl (nI j)), o] [] from ?_) (lsL K 0).length 0 0 none (by omega) (Or.inl rfl) rfl
  intro q
  induction q with
  | zero =>
    intro j b o hj hb hs
    rw [List.drop_of_length_le (by omega), chF] at hs
    refine b_X8_choose_4.go C ⟨_, hR.mn, trivial, ?_⟩
    refine k_X8_choose_9.go C X (c_size (d + 2) G (A 9 0) _ _ _ hls) (rest := [.inl (nI j)]) rfl rfl rfl (fun _ => ⟨_, _, _, rfl, hR.1 9 0 (show 0 ≤ 13 by omega), by decide⟩) (lb rfl) (Rq.of (by omega) (by decide) (Nat.le_refl _) (Nat.le_refl _)) ?_
    rintro r G9 ⟨h9, rfl⟩
    replace h9 := h9.symm
    subst h9
    refine b_X8_choose_12.go C ⟨fun h12 => ⟨trivial, ?_⟩, fun h => absurd (nI_le (by omega) (by omega)) h⟩
    refine b_X8_choose_63.go C ⟨trivial, ?_⟩
    exact V_aret C X (Or.inl ⟨_, rfl⟩) d_X8_choose_64 (Nat.zero_le _) (Nat.zero_le _) ⟨rfl, by rw [hs]⟩
  | succ q ih =>
    intro j b o hj hb hs
    have hjl : j < (lsL K 0).length := by omega
    rcases hl.2.2.2.1 with ⟨h4, h5⟩ | ⟨h4, h5, h6⟩
    · omega
    have hea : eaK Y A K 0 = A 10 0 := by rw [eaK, if_neg h5]
    have hrow : G (A 10 0) = some (oar 6 (cpK K 0) (fun j => dec A 1 (K (4000 + 0) j))) := by
      rcases hR.le (by decide) hl with ⟨h8, -⟩ | ⟨h8, -⟩
      · omega
      · rw [hea] at h8; exact h8
    have hls2 := hls
    rw [hea] at hls2
    obtain ⟨u, hu⟩ : ∃ u, (lsL K 0)[j] = u := ⟨_, rfl⟩
    have hget : dec A 1 (K (4000 + 0) j) = some (A 1 u) := by
      have := hR.lget hl hjl
      rw [List.getElem?_eq_getElem hjl, Option.getD_some, hu] at this
      exact this
    have hm : u ∈ lsL K 0 := hu ▸ List.getElem_mem hjl
    have hub := hl.2.2.2.2.1 u hm
    obtain ⟨hwu, hnu⟩ := hw u hm
    rw [List.drop_eq_getElem_cons hjl, hu, chF] at hs
    have skp : ¬ (chB L aw u = true ∧ (b = 0 ∨ ahB K u b = true)) → V p l e (RM (d + 3) 0 0) s m args below meth c Y (GA G s.heap.size) (QM below args s (RM (d + 3) 0 0) Y G (fun r G' => G' = G ∧ r = some (.inr (.inr (opS A (chsK K L aw)))))) 57 G 0 0 [some (.inr (.inr (some (A 0 0)))), some (.inr (.inr (opS A aw))), some (.inr (.inr (opS A b))), some (.inl (nI j)), some (.inr (.inr (some (A 1 u))))] [] := by
      intro hc
      rw [if_neg hc] at hs
      refine b_X8_choose_57.go C ⟨_, nI_1 _, trivial, ?_⟩
      exact ih (j + 1) b _ (by omega) hb hs
    have tak : (chB L aw u = true ∧ (b = 0 ∨ ahB K u b = true)) → V p l e (RM (d + 3) 0 0) s m args below meth c Y (GA G s.heap.size) (QM below args s (RM (d + 3) 0 0) Y G (fun r G' => G' = G ∧ r = some (.inr (.inr (opS A (chsK K L aw)))))) 54 G 0 0 [some (.inr (.inr (some (A 0 0)))), some (.inr (.inr (opS A aw))), some (.inr (.inr (opS A b))), some (.inl (nI j)), some (.inr (.inr (some (A 1 u))))] [] := by
      intro hc
      rw [if_pos hc] at hs
      refine b_X8_choose_54.go C ⟨trivial, ?_⟩
      refine b_X8_choose_57.go C ⟨_, nI_1 _, trivial, ?_⟩
      have ihu := ih (j + 1) u (some (.inr (.inr (some (A 1 u)))))
      rw [opS_s (A := A) (show u ≠ 0 by omega)] at ihu
      exact ihu (by omega) (Or.inr ⟨hub.1, hub.2, hwu⟩) hs
    have cmp : chB L aw u = true → V p l e (RM (d + 3) 0 0) s m args below meth c Y (GA G s.heap.size) (QM below args s (RM (d + 3) 0 0) Y G (fun r G' => G' = G ∧ r = some (.inr (.inr (opS A (chsK K L aw)))))) 41 G 0 0 [some (.inr (.inr (some (A 0 0)))), some (.inr (.inr (opS A aw))), some (.inr (.inr (opS A b))), some (.inl (nI j)), some (.inr (.inr (some (A 1 u))))] [] := by
      intro hc
      refine b_X8_choose_41.go C ⟨(fun h41 => ⟨trivial, ?_⟩), (fun a41 h41 => ⟨trivial, ?_⟩)⟩
      · exact tak ⟨hc, Or.inl (opS_0 h41)⟩
      have hb0 := opS_1 h41
      have hb1 := hb.resolve_left hb0
      rw [opS_s hb0] at skp tak
      have go : V p l e (RM (d + 3) 0 0) s m args below meth c Y (GA G s.heap.size) (QM below args s (RM (d + 3) 0 0) Y G (fun r G' => G' = G ∧ r = some (.inr (.inr (opS A (chsK K L aw)))))) 45 G 0 0 [some (.inr (.inr (some (A 0 0)))), some (.inr (.inr (opS A aw))), some (.inr (.inr (some (A 1 b)))), some (.inl (nI j)), some (.inr (.inr (some (A 1 u))))] [] := by
        refine b_X8_choose_45.go C ⟨trivial, ?_⟩
        refine k_X8_choose_48.go C X (c_comesAheadOf (d + 2) G (A 1 u) (A 1 b) _ _ _ _ (hR.wk hub hwu) (hR.wk ⟨hb1.1, hb1.2.1⟩ hb1.2.2)) (rest := []) rfl rfl rfl (fun _ => ⟨_, _, _, rfl, hR.wk hub hwu, by decide⟩) (lb rfl) (Rq.of (by omega) (by decide) (Nat.le_refl _) (Nat.le_refl _)) ?_
        rintro r G9 ⟨h9, rfl⟩
        replace h9 := h9.symm
        subst h9
        refine b_X8_choose_51.go C ⟨fun h51 => ⟨trivial, ?_⟩, fun h51 => ⟨trivial, ?_⟩⟩
        · have h51 : ahB K u b = false := bI_0 h51
          exact skp (fun z => z.2.elim hb0 (fun y => by rw [h51] at y; cases y))
        · have h51 : ahB K u b = true := bI_1 h51
          exact tak ⟨hc, Or.inr h51⟩
      rw [← opS_s hb0] at go
      exact go
    refine b_X8_choose_4.go C ⟨_, hR.mn, trivial, ?_⟩
    refine k_X8_choose_9.go C X (c_size (d + 2) G (A 9 0) _ _ _ hls) (rest := [.inl (nI j)]) rfl rfl rfl (fun _ => ⟨_, _, _, rfl, hR.1 9 0 (show 0 ≤ 13 by omega), by decide⟩) (lb rfl) (Rq.of (by omega) (by decide) (Nat.le_refl _) (Nat.le_refl _)) ?_
    rintro r G9 ⟨h9, rfl⟩
    replace h9 := h9.symm
    subst h9
    refine b_X8_choose_12.go C ⟨fun h => absurd (show (lsL K 0).length ≤ j from (nI_leI (by omega) (by omega)).mp h) (by omega), fun h12 => ⟨trivial, ?_⟩⟩
    refine b_X8_choose_15.go C ⟨_, hR.mn, trivial, ?_⟩
    refine k_X8_choose_20.go C X (c_get d G (A 9 0) (A 10 0) _ (cpK K 0) j _ _ hls2 hrow hjl hlc (by omega)) (rest := []) rfl rfl rfl (fun _ => ⟨_, _, _, rfl, hR.1 9 0 (show 0 ≤ 13 by omega), by decide⟩) (lb rfl) (Rq.of (by omega) (by decide) (Nat.le_refl _) (Nat.le_refl _)) ?_
    rintro r G9 ⟨h9, rfl⟩
    replace h9 := h9.symm
    subst h9
    rw [hget]
    refine b_X8_choose_23.go C ⟨fun a9 h9 => by cases h9; exact ⟨_, _, hR.wk hub hwu, by decide⟩, fun h23 => ⟨trivial, ?_⟩, fun a23 h23 => ⟨trivial, ?_⟩⟩
    · have h0 := opS_0 h23
      exact cmp (by rw [chB, decide_eq_true h0]; rfl)
    · have h0 := opS_1 h23
      have go : V p l e (RM (d + 3) 0 0) s m args below meth c Y (GA G s.heap.size) (QM below args s (RM (d + 3) 0 0) Y G (fun r G' => G' = G ∧ r = some (.inr (.inr (opS A (chsK K L aw)))))) 32 G 0 0 [some (.inr (.inr (some (A 0 0)))), some (.inr (.inr (some (A 1 aw)))), some (.inr (.inr (opS A b))), some (.inl (nI j)), some (.inr (.inr (some (A 1 u))))] [] := by
        rw [opS_s h0] at cmp skp
        refine b_X8_choose_32.go C ⟨trivial, ?_⟩
        refine k_X8_choose_35.go C X (k_hangsOn (d + 2) G A n F K L aw u hR (by omega) hub hnu) (rest := []) rfl rfl rfl (fun _ => ⟨_, _, _, rfl, hR.st (by omega), stC_in _⟩) (lb rfl) (Rq.of (by omega) (by decide) (Nat.le_refl _) (Nat.le_refl _)) ?_
        rintro r G9 ⟨h9, rfl⟩
        replace h9 := h9.symm
        subst h9
        refine b_X8_choose_38.go C ⟨fun h38 => ⟨trivial, ?_⟩, fun h38 => ⟨trivial, ?_⟩⟩
        · have h38 : hgB L aw u = false := bI_0 h38
          exact skp (fun z => by rw [chB, decide_eq_false h0, h38] at z; exact absurd z.1 (by decide))
        · have h38 : hgB L aw u = true := bI_1 h38
          exact cmp (by rw [chB, h38, Bool.or_true])
      rw [← opS_s h0] at go
      exact go
/-- cook c takes the work u -/
def tkK1 (K : MS) (c u : Nat) : MS := addK (drpK K 0 u) c u
def tkK2 (K : MS) (c u : Nat) : MS := up2 (up2 (tkK1 K c u) 31 u (nI c)) 30 u (tkK1 K c u 60 c)
def tkK3 (K : MS) (c u : Nat) : MS := bwK (tkK2 K c u) u (K 2 0)
/-- when its part is over -/
def tkO (K : MS) (u : Nat) : Int32 := K 2 0 + (if K 11 u = nI 3 then K 23 u / nI 2 else K 23 u)
def tkK (K : MS) (c u : Nat) : MS := jrnK (tkK3 K c u) (K 2 0) (K 10 u) (nI 1)
def tkC (K : MS) (c u : Nat) : Nat := acK (drpK K 0 u) c + jcK (tkK3 K c u)
theorem tk1_o {K : MS} {c u f j : Nat} (hc : c ≤ 12) (hl : ¬ isLs f) (h63 : f ≠ 63) : tkK1 K c u f j = K f j := by
  unfold isLs at hl
  unfold tkK1
  rw [add_o (by omega) (by omega), drp_o (by omega) (by omega)]
set_option maxHeartbeats 2000000 in
theorem k_take (d : Nat) (G : GH) (A : AS) (n F : Nat) (K : MS) (L : KL) (c0 u w : Nat) (hR : KR Y G A n F K L) (hc : 1 ≤ c0 ∧ c0 ≤ 12) (hu : 1 ≤ u ∧ u ≤ n) (hwu : isWK K u = true) (hL : LA K n) (hj : jrOk K) (ho : tkO K u = nI w) (hw : w ≤ 100000) : Cd l yX8_take cX8_take 3 none (d + 7) ((tkC K c0 u)) ((tkC K c0 u)) Y [.inr (.inr (some (A 0 0))), .inr (.inr (some (A 8 c0))), .inr (.inr (some (A 1 u)))] G (fun r G' => r = none ∧ ∃ A', KR Y G' A' n F (tkK K c0 u) (mrkL L w) ∧ AK A A') := by
  refine Ct.of (ini := False) (by decide +kernel) False.elim rfl (Nat.le_of_ble_eq_true rfl) ?_
  intro p e s m args below meth c C X
  have hn := hR.2.2.1
  have L0 := hL 0 (by decide)
  have LD := hL.drp hn (a := 0) (i := u) (by decide)
  have w1 : isWK (tkK1 K c0 u) u = true := by rw [wk_e (fun j => tk1_o hc.2 (fun q => by unfold isLs at q; omega) (by decide))]; exact hwu
  have hac : acK (drpK K 0 u) c0 ≤ tkC K c0 u := Nat.le_add_right _ _
  have lk := LD c0 (by omega)
  refine b_X8_take_0.go C ⟨(fun _ _ => ⟨trivial, ?_⟩), (fun h => by cases h)⟩
  refine b_X8_take_5.go C ⟨_, hR.mn, trivial, ?_⟩
  refine k_X8_take_10.go C X (k_dropFrom (d + 3) G A n F K L 0 u hR (by decide) L0.1 L0.2.1 hu) (rest := []) rfl rfl rfl (fun h => absurd rfl h) (lb rfl) (Rq.of (by omega) (by decide) (by show _ ≤ tkC K c0 u; omega) (by show _ ≤ tkC K c0 u; omega)) ?_
  rintro r G9 ⟨rfl, R1⟩
  refine b_X8_take_13.go C ⟨_, R1.ck hc, trivial, ?_⟩
  refine k_X8_take_18.go C X (k_add d G9 A n F (drpK K 0 u) L c0 u R1 (by omega) lk.1 (by omega) hu) (rest := []) rfl rfl rfl (fun _ => ⟨_, _, _, rfl, R1.1 9 c0 (show c0 ≤ 13 by omega), by decide⟩) (lb rfl) (Rq.of (by omega) (by decide) (by show _ ≤ tkC K c0 u; omega) (by show _ ≤ tkC K c0 u; omega)) ?_
  rintro r G8 ⟨rfl, A1, R2, hA⟩
  rw [← hA.kt, ← hA.sg u, ← hA.ck c0]
  have R2 : KR Y G8 A1 n F (tkK1 K c0 u) L := R2
  have R3 := R2.h1 hu w1 hc
  have R4 := R3.pW hu (show isWK (up2 (tkK1 K c0 u) 31 u (nI c0)) u = true from w1) 20 (tkK1 K c0 u 60 c0) rfl
  have w2 : isWK (tkK2 K c0 u) u = true := w1
  have o2 : ∀ f j, f ≠ 31 → f ≠ 30 → ¬ isLs f → f ≠ 63 → tkK2 K c0 u f j = K f j := fun f j h1 h2 h3 h4 => by unfold tkK2; rw [up2_f h2, up2_f h1, tk1_o hc.2 h3 h4]
  have e2 : up2 (up2 (tkK1 K c0 u) 31 u (nI c0)) (10 + 20) u (tkK1 K c0 u 60 c0) 2 0 = K 2 0 := o2 2 0 (by decide) (by decide) (fun q => by unfold isLs at q; omega) (by decide)
  have e11 : tkK2 K c0 u 11 u = K 11 u := o2 11 u (by decide) (by decide) (fun q => by unfold isLs at q; omega) (by decide)
  have e23 : tkK2 K c0 u 23 u = K 23 u := o2 23 u (by decide) (by decide) (fun q => by unfold isLs at q; omega) (by decide)
  have eo : K 2 0 + (if tkK2 K c0 u 11 u = nI 3 then tkK2 K c0 u 23 u / nI 2 else tkK2 K c0 u 23 u) = nI w := by rw [e11, e23]; exact ho
  have o3 : ∀ f j, f ≠ 28 → f ≠ 27 → f ≠ 26 → f ≠ 25 → f ≠ 16 → tkK3 K c0 u f j = tkK2 K c0 u f j := fun f j h1 h2 h3 h4 h5 => by unfold tkK3 bwK; rw [up2_f h5, up2_f h4, up2_f h3, up2_f h2, up2_f h1]
  have hj3 : jrOk (tkK3 K c0 u) := jrOk_e ((o3 80 0 (by decide) (by decide) (by decide) (by decide) (by decide)).trans (o2 80 0 (by decide) (by decide) (fun q => by unfold isLs at q; omega) (by decide))) ((o3 81 0 (by decide) (by decide) (by decide) (by decide) (by decide)).trans (o2 81 0 (by decide) (by decide) (fun q => by unfold isLs at q; omega) (by decide))) hj
  have eT : tkK K c0 u = jrnK (tkK3 K c0 u) (tkK3 K c0 u 2 0) (tkK3 K c0 u 10 u) (nI 1) := by
    unfold tkK
    rw [(o3 2 0 (by decide) (by decide) (by decide) (by decide) (by decide)).trans (o2 2 0 (by decide) (by decide) (fun q => by unfold isLs at q; omega) (by decide)), (o3 10 u (by decide) (by decide) (by decide) (by decide) (by decide)).trans (o2 10 u (by decide) (by decide) (fun q => by unfold isLs at q; omega) (by decide))]
  refine b_X8_take_21.go C ⟨_, R2.wk hu w1, _, R3.ck hc, _, R3.wk hu w1, _, R4.mn, trivial, ?_⟩
  rw [e2]
  have R5 := R4.bw hu w2 (K 2 0)
  have R5 : KR Y _ A1 n F (tkK3 K c0 u) L := R5
  have w3 : isWK (tkK3 K c0 u) u = true := w2
  refine k_X8_take_40.go C X (c_beginWorking (d + 6) _ (A1 1 u) (K 2 0) _ _ (R4.wk hu w2)) (rest := []) rfl rfl rfl (fun _ => ⟨_, _, _, rfl, R4.wk hu w2, by decide⟩) (lb rfl) (Rq.of (by omega) (by decide) (by show _ ≤ tkC K c0 u; omega) (by show _ ≤ tkC K c0 u; omega)) ?_
  rintro r G7 ⟨rfl, rfl⟩
  refine b_X8_take_43.go C ⟨_, R5.mn, _, up_eq, trivial, ?_⟩
  refine k_X8_take_51.go C X (k_mark (d + 5) _ A1 n F (tkK3 K c0 u) L w R5 hw) (rest := []) (show _ = _ from congrArg (fun z : Int32 => ([.inl z, .inr (.inr (some (A1 15 0)))] : List AV)) eo) rfl rfl (fun _ => ⟨_, _, _, rfl, R5.ag, by decide⟩) (lb rfl) (Rq.of (by omega) (by decide) (by show _ ≤ tkC K c0 u; omega) (by show _ ≤ tkC K c0 u; omega)) ?_
  rintro r G6 ⟨rfl, R6⟩
  refine b_X8_take_54.go C ⟨_, R6.mn, _, R6.mn, _, R6.wk hu w3, trivial, ?_⟩
  refine k_X8_take_67.go C X (k_enter (d + 4) G6 A1 n F (tkK3 K c0 u) (mrkL L w) (tkK3 K c0 u 2 0) (tkK3 K c0 u 10 u) (nI 1) R6 hj3) (rest := []) rfl rfl rfl (fun _ => ⟨_, _, _, rfl, R6.jr, by decide⟩) (lb rfl) (Rq.of (by omega) (by decide) (by show _ ≤ tkC K c0 u; unfold tkC; omega) (by show _ ≤ tkC K c0 u; unfold tkC; omega)) ?_
  rintro r G5 ⟨rfl, A2, R7, hA2⟩
  exact V_vret C X d_X8_take_70 (by show _ ≤ tkC K c0 u; unfold tkC; omega) (by show _ ≤ tkC K c0 u; unfold tkC; omega) ⟨rfl, A2, by rw [eT]; exact R7, hA.tr hA2⟩
theorem k_take0 (d : Nat) (G : GH) (A : AS) (n F : Nat) (K : MS) (L : KL) (c0 : Nat) : Cd l yX8_take cX8_take 3 none d 0 0 Y [.inr (.inr (some (A 0 0))), .inr (.inr (some (A 8 c0))), .inr (.inr none)] G (fun r G' => r = none ∧ G' = G) := by
  refine Ct.of (ini := False) (by decide +kernel) False.elim rfl (Nat.le_of_ble_eq_true rfl) ?_
  intro p e s m args below meth c C X
  refine b_X8_take_0.go C ⟨(fun _ h => by cases h), (fun _ => ⟨trivial, ?_⟩)⟩
  exact V_vret C X d_X8_take_4 (Nat.zero_le _) (Nat.zero_le _) ⟨rfl, rfl⟩
end CLL
