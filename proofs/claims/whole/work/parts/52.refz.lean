/-! the reference: its constructor -/
section REFZ
variable {l : Launch} {Y : YT}
def M00 : MS := fun _ _ => 0
/-- the fields while the arrays below j are there -/
def rfP (j : Nat) (ra : Nat → Nat) (M : MS) : List AV := [.inl (M 0 0), .inl (M 1 0), .inr (.inr (if 2 < j then some (ra 2) else none)), .inr (.inr (if 3 < j then some (ra 3) else none)), .inr (.inr (if 4 < j then some (ra 4) else none)), .inr (.inr (if 5 < j then some (ra 5) else none)), .inr (.inr (if 6 < j then some (ra 6) else none)), .inr (.inr (if 7 < j then some (ra 7) else none)), .inr (.inr (if 8 < j then some (ra 8) else none)), .inr (.inr (if 9 < j then some (ra 9) else none)), .inr (.inr (if 10 < j then some (ra 10) else none)), .inr (.inr (if 11 < j then some (ra 11) else none)), .inr (.inr (if 12 < j then some (ra 12) else none)), .inr (.inr (if 13 < j then some (ra 13) else none)), .inr (.inr (if 14 < j then some (ra 14) else none)), .inr (.inr (if 15 < j then some (ra 15) else none)), .inl (M 16 0), .inl (M 17 0), .inr (.inr (if 18 < j then some (ra 18) else none)), .inr (.inr (if 19 < j then some (ra 19) else none)), .inr (.inr (if 20 < j then some (ra 20) else none)), .inr (.inr (if 21 < j then some (ra 21) else none)), .inr (.inr (if 22 < j then some (ra 22) else none)), .inr (.inr (if 23 < j then some (ra 23) else none)), .inr (.inr (if 24 < j then some (ra 24) else none)), .inr (.inr (if 25 < j then some (ra 25) else none)), .inr (.inr (if 26 < j then some (ra 26) else none)), .inr (.inr (if 27 < j then some (ra 27) else none)), .inr (.inr (if 28 < j then some (ra 28) else none)), .inr (.inr (if 29 < j then some (ra 29) else none)), .inr (.inr (if 30 < j then some (ra 30) else none)), .inr (.inr (if 31 < j then some (ra 31) else none)), .inr (.inr (if 32 < j then some (ra 32) else none)), .inr (.inr (if 33 < j then some (ra 33) else none)), .inr (.inr (if 34 < j then some (ra 34) else none)), .inr (.inr (if 35 < j then some (ra 35) else none)), .inr (.inr (if 36 < j then some (ra 36) else none)), .inr (.inr (if 37 < j then some (ra 37) else none)), .inl (M 38 0), .inr (.inr (if 39 < j then some (ra 39) else none)), .inl (M 40 0), .inr (.inr (if 41 < j then some (ra 41) else none)), .inr (.inr (if 42 < j then some (ra 42) else none)), .inr (.inr (if 43 < j then some (ra 43) else none)), .inl (M 44 0), .inl (M 45 0), .inr (.inr (if 46 < j then some (ra 46) else none)), .inr (.inr (if 47 < j then some (ra 47) else none)), .inr (.inr (if 48 < j then some (ra 48) else none)), .inr (.inr (if 49 < j then some (ra 49) else none)), .inr (.inr (if 50 < j then some (ra 50) else none)), .inr (.inr (if 51 < j then some (ra 51) else none)), .inr (.inr (if 52 < j then some (ra 52) else none)), .inl (M 53 0), .inl (M 54 0), .inr (.inr (if 55 < j then some (ra 55) else none)), .inr (.inr (if 56 < j then some (ra 56) else none)), .inr (.inr (if 57 < j then some (ra 57) else none)), .inr (.inr (if 58 < j then some (ra 58) else none)), .inr (.inr (if 59 < j then some (ra 59) else none)), .inl (M 60 0), .inr (.inr (if 61 < j then some (ra 61) else none)), .inr (.inr (if 62 < j then some (ra 62) else none)), .inr (.inr (if 63 < j then some (ra 63) else none)), .inl (M 64 0), .inr (.inr (if 65 < j then some (ra 65) else none))]
def RP (j : Nat) (G : GH) (x : Nat) (ra : Nat → Nat) (M : MS) : Prop := G x = some (.inr (9, rfP j ra M)) ∧ (∀ k, k < j → isN k = false → G (ra k) = some (.inl (aKd k, aLen k, .inl (M k)))) ∧ (∀ i k, i < j → k < j → isN i = false → isN k = false → ra i = ra k → i = k)
theorem RP.new {k : Nat} {G : GH} {x q : Nat} {ra : Nat → Nat} {M : MS} (h : RP k G x ra M) (hq : G q = none) (hM : M k = fun _ => 0) : RP (k + 1) (va_up (va_up G q (some (.inl (aKd k, aLen k, .inl (fun _ => 0))))) x (some (.inr (9, rfP (k + 1) (va_up ra k q) M)))) x (va_up ra k q) M := by
  obtain ⟨h1, h2, h3⟩ := h
  have hxq : x ≠ q := ne_none h1 hq
  have hf : ∀ j, j < k → isN j = false → ra j ≠ q := fun j hj hjn z => by have hg := h2 j hj hjn; rw [z, hq] at hg; cases hg
  refine ⟨up_eq, fun j hj hjn => ?_, fun i j hi hj hin hjn e => ?_⟩
  · by_cases e : j = k
    · subst e
      rw [up_eq, up_ne (Ne.symm hxq), up_eq, hM]
    · have hg := h2 j (by omega) hjn
      rw [up_ne e, up_ne (fun z => by rw [z, h1] at hg; cases hg), up_ne (fun z => by rw [z, hq] at hg; cases hg)]
      exact hg
  · by_cases e1 : i = k
    · by_cases e2 : j = k
      · rw [e1, e2]
      · rw [e1, up_eq, up_ne e2] at e
        exact absurd e.symm (hf j (by omega) hjn)
    · by_cases e2 : j = k
      · rw [e2, up_eq, up_ne e1] at e
        exact absurd e (hf i (by omega) hin)
      · rw [up_ne e1, up_ne e2] at e
        exact h3 i j (by omega) (by omega) hin hjn e
theorem RP.skip {k : Nat} {G : GH} {x : Nat} {ra : Nat → Nat} {M : MS} (h : RP k G x ra M) (hk : isN k = true) (he : rfP (k + 1) ra M = rfP k ra M) : RP (k + 1) G x ra M := by
  obtain ⟨h1, h2, h3⟩ := h
  have hn : ∀ j, isN j = false → j ≠ k := fun j hj e => by rw [e, hk] at hj; cases hj
  exact ⟨by rw [he]; exact h1, fun j hj hjn => h2 j (by have := hn j hjn; omega) hjn, fun i j hi hj hin hjn => h3 i j (by have := hn i hin; omega) (by have := hn j hjn; omega) hin hjn⟩
/-- field 45 gets 1 -/
theorem RP.one {G : GH} {x : Nat} {ra : Nat → Nat} (h : RP 45 G x ra M00) : RP 46 (va_up G x (some (.inr (9, rfP 46 ra (up2 M00 45 0 (nI 1)))))) x ra (up2 M00 45 0 (nI 1)) := by
  obtain ⟨h1, h2, h3⟩ := h
  have hn : ∀ j, isN j = false → j ≠ 45 := fun j hj e => by rw [e] at hj; cases hj
  refine ⟨up_eq, fun j hj hjn => ?_, fun i j hi hj hin hjn => h3 i j (by have := hn i hin; omega) (by have := hn j hjn; omega) hin hjn⟩
  have hg := h2 j (by have := hn j hjn; omega) hjn
  rw [up_ne (fun z => by rw [z, h1] at hg; cases hg), up2_f (hn j hjn)]
  exact hg
theorem RP.rr {G : GH} {x : Nat} {ra : Nat → Nat} {M : MS} (h : RP 66 G x ra M) : RR G x ra M := ⟨h.1, fun k hk hkn => h.2.1 k hk hkn, h.2.2⟩
theorem nwI {R : Room} {K : KT} {G : GH} {x n s : Nat} {ra : Nat → Nat} {M : MS} {lc : List (Option AV)} {st : List AV} (k N : Nat) (h : RP k G x ra M) (hM : M k = fun _ => 0) (hk : aKd k = 0) (hN : aLen k = N) (h5 : N ≤ 100000) (hs : ∀ (q : Nat) (P : List AV → Prop), P (rfP (k + 1) (va_up ra k q) M) → setF (rfP k ra M) k (.inr (.inr (some q))) P) (hc : n + 1 ≤ R.cells) (hl : s + N ≤ R.slots) (rest : ∀ G' ra', RP (k + 1) G' x ra' M → K G' (n + 1) (s + N) lc st) : w_int (nI N) R Y (w_newaI R Y (w_putA 9 k R Y K)) G n s lc (.inr (.inr (some x)) :: st) := by
  refine ⟨N, rfl, h5, hc, hl, fun q hq => ⟨_, (up_ne (ne_none h.1 hq)).trans h.1, hs q _ (rest _ (va_up ra k q) ?_)⟩⟩
  have h9 := h.new hq hM
  rw [hk, hN] at h9
  exact h9
theorem nwZ {R : Room} {K : KT} {G : GH} {x n s : Nat} {ra : Nat → Nat} {M : MS} {lc : List (Option AV)} {st : List AV} (k N : Nat) (h : RP k G x ra M) (hM : M k = fun _ => 0) (hk : aKd k = 2) (hN : aLen k = N) (h5 : N ≤ 100000) (hs : ∀ (q : Nat) (P : List AV → Prop), P (rfP (k + 1) (va_up ra k q) M) → setF (rfP k ra M) k (.inr (.inr (some q))) P) (hc : n + 1 ≤ R.cells) (hl : s + N ≤ R.slots) (rest : ∀ G' ra', RP (k + 1) G' x ra' M → K G' (n + 1) (s + N) lc st) : w_int (nI N) R Y (w_newaZ R Y (w_putA 9 k R Y K)) G n s lc (.inr (.inr (some x)) :: st) := by
  refine ⟨N, rfl, h5, hc, hl, fun q hq => ⟨_, (up_ne (ne_none h.1 hq)).trans h.1, hs q _ (rest _ (va_up ra k q) ?_)⟩⟩
  have h9 := h.new hq hM
  rw [hk, hN] at h9
  exact h9
theorem nw1 {R : Room} {K : KT} {G : GH} {x n s : Nat} {ra : Nat → Nat} {lc : List (Option AV)} {st : List AV} (h : RP 45 G x ra M00) (rest : ∀ G', RP 46 G' x ra (up2 M00 45 0 (nI 1)) → K G' n s lc st) : w_int (nI 1) R Y (w_putI 9 45 R Y K) G n s lc (.inr (.inr (some x)) :: st) := ⟨_, h.1, rest _ h.one⟩
/-- the reference at its beginning: nothing is there; one cook -/
def M01 : MS := up2 M00 45 0 (nI 1)
def ofF : Nat → Nat → MS → MS
  | 0, _, M => M
  | q + 1, t, M => ofF q (t + 1) (up2 M 14 t (-1))
def M0 : MS := ofF 201 0 M01
set_option maxHeartbeats 4000000 in
theorem r_init (d : Nat) (G : GH) (x : Nat) (hx : G x = some (.inr (9, rfP 0 (fun _ => 0) M00))) : Cd l yX9_init cX9_init 2 none (d + 1) 54 89708 Y [.inr (.inr (some x))] G (fun r G' => r = none ∧ ∃ ra, RR G' x ra M0) := by
  refine Ct.of (ini := True) (by decide +kernel) (fun _ => rfl) rfl (Nat.le_of_ble_eq_true rfl) ?_
  intro p e s m args below meth c C X
  refine b_X9_init_0.go C ⟨trivial, ?_⟩
  refine V_objInit C X q_1100 d_X9_init_1 rfl ⟨Nat.succ_le_succ (Nat.zero_le _), by show 20 ≤ 40 * (d + 1); omega⟩ (Nat.zero_le _) ?_
  have R0 : RP 0 G x (fun _ => 0) M00 := ⟨hx, fun k hk => absurd hk (Nat.not_lt_zero _), fun i k hi => absurd hi (Nat.not_lt_zero _)⟩
  have R1 := R0.skip rfl rfl
  have R2 := R1.skip rfl rfl
  refine b_X9_init_4.go C ?_
  refine nwI 2 201 R2 rfl rfl rfl (by decide) (fun _ _ hP => hP) (lb rfl) (lb rfl) (fun G3 ra3 R3 => ?_)
  refine nwI 3 4824 R3 rfl rfl rfl (by decide) (fun _ _ hP => hP) (lb rfl) (lb rfl) (fun G4 ra4 R4 => ?_)
  refine nwI 4 201 R4 rfl rfl rfl (by decide) (fun _ _ hP => hP) (lb rfl) (lb rfl) (fun G5 ra5 R5 => ?_)
  refine nwI 5 201 R5 rfl rfl rfl (by decide) (fun _ _ hP => hP) (lb rfl) (lb rfl) (fun G6 ra6 R6 => ?_)
  refine nwI 6 201 R6 rfl rfl rfl (by decide) (fun _ _ hP => hP) (lb rfl) (lb rfl) (fun G7 ra7 R7 => ?_)
  refine nwI 7 201 R7 rfl rfl rfl (by decide) (fun _ _ hP => hP) (lb rfl) (lb rfl) (fun G8 ra8 R8 => ?_)
  refine ⟨trivial, ?_⟩
  refine b_X9_init_58.go C ?_
  refine nwI 8 201 R8 rfl rfl rfl (by decide) (fun _ _ hP => hP) (lb rfl) (lb rfl) (fun G9 ra9 R9 => ?_)
  refine nwI 9 201 R9 rfl rfl rfl (by decide) (fun _ _ hP => hP) (lb rfl) (lb rfl) (fun G10 ra10 R10 => ?_)
  refine nwI 10 201 R10 rfl rfl rfl (by decide) (fun _ _ hP => hP) (lb rfl) (lb rfl) (fun G11 ra11 R11 => ?_)
  refine nwI 11 201 R11 rfl rfl rfl (by decide) (fun _ _ hP => hP) (lb rfl) (lb rfl) (fun G12 ra12 R12 => ?_)
  refine nwI 12 201 R12 rfl rfl rfl (by decide) (fun _ _ hP => hP) (lb rfl) (lb rfl) (fun G13 ra13 R13 => ?_)
  refine nwZ 13 201 R13 rfl rfl rfl (by decide) (fun _ _ hP => hP) (lb rfl) (lb rfl) (fun G14 ra14 R14 => ?_)
  refine ⟨trivial, ?_⟩
  refine b_X9_init_112.go C ?_
  refine nwI 14 201 R14 rfl rfl rfl (by decide) (fun _ _ hP => hP) (lb rfl) (lb rfl) (fun G15 ra15 R15 => ?_)
  refine nwI 15 201 R15 rfl rfl rfl (by decide) (fun _ _ hP => hP) (lb rfl) (lb rfl) (fun G16 ra16 R16 => ?_)
  have R17 := R16.skip rfl rfl
  have R18 := R17.skip rfl rfl
  refine nwI 18 201 R18 rfl rfl rfl (by decide) (fun _ _ hP => hP) (lb rfl) (lb rfl) (fun G19 ra19 R19 => ?_)
  refine nwI 19 201 R19 rfl rfl rfl (by decide) (fun _ _ hP => hP) (lb rfl) (lb rfl) (fun G20 ra20 R20 => ?_)
  refine nwI 20 201 R20 rfl rfl rfl (by decide) (fun _ _ hP => hP) (lb rfl) (lb rfl) (fun G21 ra21 R21 => ?_)
  refine nwI 21 201 R21 rfl rfl rfl (by decide) (fun _ _ hP => hP) (lb rfl) (lb rfl) (fun G22 ra22 R22 => ?_)
  refine ⟨trivial, ?_⟩
  refine b_X9_init_166.go C ?_
  refine nwI 22 201 R22 rfl rfl rfl (by decide) (fun _ _ hP => hP) (lb rfl) (lb rfl) (fun G23 ra23 R23 => ?_)
  refine nwI 23 201 R23 rfl rfl rfl (by decide) (fun _ _ hP => hP) (lb rfl) (lb rfl) (fun G24 ra24 R24 => ?_)
  refine nwI 24 201 R24 rfl rfl rfl (by decide) (fun _ _ hP => hP) (lb rfl) (lb rfl) (fun G25 ra25 R25 => ?_)
  refine nwI 25 201 R25 rfl rfl rfl (by decide) (fun _ _ hP => hP) (lb rfl) (lb rfl) (fun G26 ra26 R26 => ?_)
  refine nwZ 26 201 R26 rfl rfl rfl (by decide) (fun _ _ hP => hP) (lb rfl) (lb rfl) (fun G27 ra27 R27 => ?_)
  refine nwI 27 201 R27 rfl rfl rfl (by decide) (fun _ _ hP => hP) (lb rfl) (lb rfl) (fun G28 ra28 R28 => ?_)
  refine ⟨trivial, ?_⟩
  refine b_X9_init_220.go C ?_
  refine nwI 28 1206 R28 rfl rfl rfl (by decide) (fun _ _ hP => hP) (lb rfl) (lb rfl) (fun G29 ra29 R29 => ?_)
  refine nwI 29 201 R29 rfl rfl rfl (by decide) (fun _ _ hP => hP) (lb rfl) (lb rfl) (fun G30 ra30 R30 => ?_)
  refine nwI 30 201 R30 rfl rfl rfl (by decide) (fun _ _ hP => hP) (lb rfl) (lb rfl) (fun G31 ra31 R31 => ?_)
  refine nwI 31 1206 R31 rfl rfl rfl (by decide) (fun _ _ hP => hP) (lb rfl) (lb rfl) (fun G32 ra32 R32 => ?_)
  refine nwI 32 201 R32 rfl rfl rfl (by decide) (fun _ _ hP => hP) (lb rfl) (lb rfl) (fun G33 ra33 R33 => ?_)
  refine nwI 33 2000 R33 rfl rfl rfl (by decide) (fun _ _ hP => hP) (lb rfl) (lb rfl) (fun G34 ra34 R34 => ?_)
  refine ⟨trivial, ?_⟩
  refine b_X9_init_274.go C ?_
  refine nwI 34 2000 R34 rfl rfl rfl (by decide) (fun _ _ hP => hP) (lb rfl) (lb rfl) (fun G35 ra35 R35 => ?_)
  refine nwI 35 2000 R35 rfl rfl rfl (by decide) (fun _ _ hP => hP) (lb rfl) (lb rfl) (fun G36 ra36 R36 => ?_)
  refine nwI 36 2000 R36 rfl rfl rfl (by decide) (fun _ _ hP => hP) (lb rfl) (lb rfl) (fun G37 ra37 R37 => ?_)
  refine nwI 37 2000 R37 rfl rfl rfl (by decide) (fun _ _ hP => hP) (lb rfl) (lb rfl) (fun G38 ra38 R38 => ?_)
  have R39 := R38.skip rfl rfl
  refine nwI 39 8000 R39 rfl rfl rfl (by decide) (fun _ _ hP => hP) (lb rfl) (lb rfl) (fun G40 ra40 R40 => ?_)
  have R41 := R40.skip rfl rfl
  refine nwI 41 64 R41 rfl rfl rfl (by decide) (fun _ _ hP => hP) (lb rfl) (lb rfl) (fun G42 ra42 R42 => ?_)
  refine ⟨trivial, ?_⟩
  refine b_X9_init_327.go C ?_
  refine nwI 42 64 R42 rfl rfl rfl (by decide) (fun _ _ hP => hP) (lb rfl) (lb rfl) (fun G43 ra43 R43 => ?_)
  refine nwI 43 64 R43 rfl rfl rfl (by decide) (fun _ _ hP => hP) (lb rfl) (lb rfl) (fun G44 ra44 R44 => ?_)
  have R45 := R44.skip rfl rfl
  refine nw1 (R := RM (d + 1) 54 89708) (Y := Y) R45 (fun G46 R46 => ?_)
  refine nwI 46 2613 R46 rfl rfl rfl (by decide) (fun _ _ hP => hP) (lb rfl) (lb rfl) (fun G47 ra47 R47 => ?_)
  refine nwI 47 13 R47 rfl rfl rfl (by decide) (fun _ _ hP => hP) (lb rfl) (lb rfl) (fun G48 ra48 R48 => ?_)
  refine nwI 48 13 R48 rfl rfl rfl (by decide) (fun _ _ hP => hP) (lb rfl) (lb rfl) (fun G49 ra49 R49 => ?_)
  refine ⟨trivial, ?_⟩
  refine b_X9_init_374.go C ?_
  refine nwI 49 13 R49 rfl rfl rfl (by decide) (fun _ _ hP => hP) (lb rfl) (lb rfl) (fun G50 ra50 R50 => ?_)
  refine nwI 50 4000 R50 rfl rfl rfl (by decide) (fun _ _ hP => hP) (lb rfl) (lb rfl) (fun G51 ra51 R51 => ?_)
  refine nwI 51 4000 R51 rfl rfl rfl (by decide) (fun _ _ hP => hP) (lb rfl) (lb rfl) (fun G52 ra52 R52 => ?_)
  refine nwI 52 4000 R52 rfl rfl rfl (by decide) (fun _ _ hP => hP) (lb rfl) (lb rfl) (fun G53 ra53 R53 => ?_)
  have R54 := R53.skip rfl rfl
  have R55 := R54.skip rfl rfl
  refine nwZ 55 201 R55 rfl rfl rfl (by decide) (fun _ _ hP => hP) (lb rfl) (lb rfl) (fun G56 ra56 R56 => ?_)
  refine nwZ 56 201 R56 rfl rfl rfl (by decide) (fun _ _ hP => hP) (lb rfl) (lb rfl) (fun G57 ra57 R57 => ?_)
  refine ⟨trivial, ?_⟩
  refine b_X9_init_427.go C ?_
  refine nwI 57 2000 R57 rfl rfl rfl (by decide) (fun _ _ hP => hP) (lb rfl) (lb rfl) (fun G58 ra58 R58 => ?_)
  refine nwI 58 2000 R58 rfl rfl rfl (by decide) (fun _ _ hP => hP) (lb rfl) (lb rfl) (fun G59 ra59 R59 => ?_)
  refine nwI 59 2000 R59 rfl rfl rfl (by decide) (fun _ _ hP => hP) (lb rfl) (lb rfl) (fun G60 ra60 R60 => ?_)
  have R61 := R60.skip rfl rfl
  refine nwI 61 12000 R61 rfl rfl rfl (by decide) (fun _ _ hP => hP) (lb rfl) (lb rfl) (fun G62 ra62 R62 => ?_)
  refine nwI 62 12000 R62 rfl rfl rfl (by decide) (fun _ _ hP => hP) (lb rfl) (lb rfl) (fun G63 ra63 R63 => ?_)
  refine nwI 63 12000 R63 rfl rfl rfl (by decide) (fun _ _ hP => hP) (lb rfl) (lb rfl) (fun G64 ra64 R64 => ?_)
  have R65 := R64.skip rfl rfl
  refine ⟨trivial, ?_⟩
  refine b_X9_init_481.go C ?_
  refine nwZ 65 2000 R65 rfl rfl rfl (by decide) (fun _ _ hP => hP) (lb rfl) (lb rfl) (fun G66 ra66 R66 => ?_)
  refine ⟨trivial, ?_⟩
  have R : RR _ x _ M01 := R66.rr
  refine (show ∀ (q t : Nat) (G1 : GH) (M1 : MS) (ra1 : Nat → Nat), t + q = 201 → RR G1 x ra1 M1 → M0 = ofF q t M1 → V p l e _ s m args below meth c Y _ _ 491 G1 54 89708 [some (.inr (.inr (some x))), some (.inl (nI t))] [] from ?_) 201 0 _ _ _ (by omega) R rfl
  intro q
  induction q with
  | zero =>
    intro t G1 M1 ra1 ht R1 hs
    refine b_X9_init_491.go C ⟨fun h => ⟨trivial, ?_⟩, fun h => absurd (nI_lt (a := 200) (b := t) (by omega) (by omega)) h⟩
    exact V_vret C X d_X9_init_511 (Nat.le_refl _) (Nat.le_refl _) ⟨rfl, ra1, by rw [hs, ofF]; exact R1⟩
  | succ q ih =>
    intro t G1 M1 ra1 ht R1 hs
    refine b_X9_init_491.go C ⟨fun h => absurd h (nI_nlt (by omega) (by omega)), fun h => ⟨trivial, ?_⟩⟩
    refine b_X9_init_498.go C ⟨_, R1.1, _, _, R1.2.1 14 (by decide) rfl, t, rfl, by show t < 201; omega, lb rfl, _, nI_1 t, trivial, ?_⟩
    exact ih (t + 1) _ _ ra1 (by omega) (R1.st 14 t (-1) (by decide) rfl) (by rw [hs, ofF])
end REFZ
