/-! the class: its journal, its agenda, bits; settle -/
section CLG
def bL (x : Int64) (i : Nat) : Bool := x.toBitVec.getLsbD i
theorem bL_one : ∀ n, n < 64 → ∀ i, i < 64 → bL (lN 1 <<< ((nI n).toInt64 &&& 63)) i = decide (n = i) := by decide +kernel
theorem bL_1 : ∀ i, i < 64 → bL (lN 1) i = decide (i = 0) := by decide +kernel
theorem sl64 : ∀ n, n < 64 → (((nI n).toInt64 &&& 63).toBitVec.smod 64).toNat = n := by decide +kernel
theorem bL_or (x y : Int64) (i : Nat) : bL (x ||| y) i = (bL x i || bL y i) := by unfold bL; rw [Int64.toBitVec_or, BitVec.getLsbD_or]
theorem bL_and (x y : Int64) (i : Nat) : bL (x &&& y) i = (bL x i && bL y i) := by unfold bL; rw [Int64.toBitVec_and, BitVec.getLsbD_and]
theorem bL_shr (n : Nat) (hn : n < 64) (x : Int64) : bL (x >>> ((nI n).toInt64 &&& 63)) 0 = bL x n := by
  unfold bL
  rw [Int64.toBitVec_shiftRight]
  show (x.toBitVec.sshiftRight (((nI n).toInt64 &&& 63).toBitVec.smod 64).toNat).getLsbD 0 = _
  rw [sl64 n hn, BitVec.getLsbD_sshiftRight]
  simp [hn]
theorem bL_and1 (x : Int64) : x &&& lN 1 = lN 0 ↔ bL x 0 = false := by
  constructor
  · intro h
    have := congrArg (fun y => bL y 0) h
    simp only [bL_and, bL_1 0 (by decide)] at this
    rw [show bL (lN 0) 0 = false by decide +kernel] at this
    simpa using this
  · intro h
    refine Int64.toBitVec_inj.mp (BitVec.eq_of_getLsbD_eq (fun i hi => ?_))
    show bL (x &&& lN 1) i = bL (lN 0) i
    rw [bL_and, bL_1 i hi, (by decide +kernel : ∀ i, i < 64 → bL (lN 0) i = false) i hi]
    by_cases e : i = 0
    · subst e; rw [h]; rfl
    · simp [e]
theorem lg_cmp_0 (x y : Int64) : lg_cmp x y = 0 ↔ x = y := by
  unfold lg_cmp
  constructor
  · intro h
    split at h
    · exact absurd h (by decide)
    · split at h
      · assumption
      · exact absurd h (by decide)
  · intro h
    subst h
    rw [if_neg (show ¬ x > x from Int64.lt_irrefl), if_pos rfl]
/-- the machine's test of bit n of x -/
theorem bL_test (n : Nat) (hn : n < 64) (x : Int64) : lg_cmp (x >>> ((nI n).toInt64 &&& 63) &&& lN 1) (lN 0) = 0 ↔ bL x n = false := by rw [lg_cmp_0, bL_and1, bL_shr n hn]
theorem cel_L {Y : YT} {A : AS} {K : MS} {L L' : KL} (h : ∀ f, 1 ≤ f → L' f = L f) : ∀ (k i : Nat), k ≠ 16 → cel Y A K L' k i = cel Y A K L k i := by
  intro k i hk
  unfold cel
  split <;> first | rfl | (rw [h _ (by omega)]) | (exact absurd rfl hk)
section JR
variable {Y : YT} {G : GH} {A : AS} {n F : Nat} {K : MS} {L : KL}
def upL0 (L : KL) (g : Nat → Int64) : KL := fun f => if f = 0 then g else L f
theorem KR.ag2 (h : KR Y G A n F K L) (g : Nat → Int64) : KR Y (va_up G (A 16 0) (some (.inl (1, 157, .inr (.inl g))))) A n F K (upL0 L g) := by
  obtain ⟨h1, h2, h3, h4, h5⟩ := h
  have l16 : liv n F K 16 0 := ⟨by decide, rfl⟩
  refine ⟨fun k i hl => ?_, h2, h3, h4, h5⟩
  by_cases e : k = 16
  · subst e
    obtain rfl : i = 0 := hl.2
    rw [up_eq]; rfl
  · rw [up_ne (fun z => e (h2 k i 16 0 hl l16 z).1), h1 k i hl, cel_L (L := L) (L' := upL0 L g) (fun f hf => by unfold upL0; rw [if_neg (by omega)]) k i e]
def jrU (K : MS) (g : Nat → Int32) (z : Int32) (N : Nat) : MS := fun f j => if f = 82 then g j else if f = 80 ∧ j = 0 then z else if f = 81 ∧ j = 0 then nI N else K f j
theorem jrU_o {g : Nat → Int32} {z : Int32} {N f j : Nat} (h1 : f ≠ 82) (h2 : ¬ (f = 80 ∧ j = 0)) (h3 : ¬ (f = 81 ∧ j = 0)) : jrU K g z N f j = K f j := by unfold jrU; rw [if_neg h1, if_neg h2, if_neg h3]
theorem jrU_82 {g : Nat → Int32} {z : Int32} {N : Nat} : jrU K g z N 82 = g := by funext j; unfold jrU; rw [if_pos rfl]
theorem jrU_80 {g : Nat → Int32} {z : Int32} {N : Nat} : jrU K g z N 80 0 = z := by unfold jrU; rw [if_neg (by decide), if_pos ⟨rfl, rfl⟩]
theorem jrU_81 {g : Nat → Int32} {z : Int32} {N : Nat} : jrU K g z N 81 0 = nI N := by unfold jrU; rw [if_neg (by decide), if_neg (by decide), if_pos ⟨rfl, rfl⟩]
theorem ment_18 {k i a : Nat} (h : ment k i 18 a) : k = 17 := by
  unfold ment at h
  split at h <;> first | omega | exact h.elim
theorem KR.jrGen (h : KR Y G A n F K L) (q N : Nat) (g : Nat → Int32) (z : Int32) (hN : N < 2 ^ 31) (hq : q = A 18 0 ∨ G q = none) : KR Y (va_up (va_up G q (some (.inl (0, N, .inl g)))) (A 17 0) (some (.inr (4, [.inr (.inr (some q)), .inl z])))) (upA A 18 0 q) n F (jrU K g z N) L := by
  have hR := h
  obtain ⟨h1, h2, h3, h4, h5⟩ := h
  have l17 : liv n F K 17 0 := ⟨by decide, rfl⟩
  have l18 : liv n F K 18 0 := ⟨by decide, rfl⟩
  have e11 : ∀ j, jrU K g z N 11 j = K 11 j := fun j => jrU_o (by decide) (fun e => by omega) (fun e => by omega)
  have e65 : ∀ j, jrU K g z N 65 j = K 65 j := fun j => jrU_o (by decide) (fun e => by omega) (fun e => by omega)
  have hlv : ∀ k i, liv n F (jrU K g z N) k i = liv n F K k i := fun k i => liv_eq e11 e65
  have q17 : q ≠ A 17 0 := by
    rcases hq with rfl | hq
    · exact fun e => absurd (h2 18 0 17 0 l18 l17 e).1 (by decide)
    · exact (ne_none (h1 17 0 l17) hq).symm
  have hne : ∀ k i, ¬ ((k = 17 ∨ k = 18) ∧ i = 0) → liv n F K k i → A k i ≠ q ∧ A k i ≠ A 17 0 := by
    intro k i t hl
    refine ⟨?_, fun e => t ⟨Or.inl (h2 k i 17 0 hl l17 e).1, (h2 k i 17 0 hl l17 e).2⟩⟩
    rcases hq with rfl | hq
    · exact fun e => t ⟨Or.inr (h2 k i 18 0 hl l18 e).1, (h2 k i 18 0 hl l18 e).2⟩
    · exact ne_none (h1 k i hl) hq
  have hKo : ∀ k i, ¬ ((k = 17 ∨ k = 18) ∧ i = 0) → ∀ f j, own f j = (k, i) → jrU K g z N f j = K f j := by
    intro k i t f j ho
    refine jrU_o (fun e => t ?_) (fun e => t ?_) (fun e => t ?_)
    · subst e; cases ho; exact ⟨Or.inr rfl, rfl⟩
    · obtain ⟨rfl, rfl⟩ := e; cases ho; exact ⟨Or.inl rfl, rfl⟩
    · obtain ⟨rfl, rfl⟩ := e; cases ho; exact ⟨Or.inr rfl, rfl⟩
  refine hR.ext (fun k i => (k = 17 ∨ k = 18) ∧ i = 0) h3 h4 ⟨fun f j hs hl => ?_, fun f j hs hl => ?_⟩ (fun k i t => upA_n (fun e => t ⟨Or.inr e.1, e.2⟩)) (fun k i _ hl => by rw [hlv] at hl; exact hl) (fun k i t hl => ?_) (fun k i t hl => ?_) (fun k i t hl => ?_)
  · have hs2 := of_decide_eq_true hs
    rw [hlv] at hl
    rw [nN, jrU_o (by omega) (by omega) (by omega)]
    exact h5.1 f j hs hl
  · have hs2 := of_decide_eq_true hs
    rw [hlv] at hl
    rw [nN, jrU_o (by omega) (by omega) (by omega)]
    exact h5.2 f j hs hl
  · rw [up_ne (hne k i t hl).2, up_ne (hne k i t hl).1]
  · rw [← cel_own h3 k i hl (fun f j ho => (hKo k i t f j ho).symm)]
    exact cel_A h3 (fun u _ => upA_n (by omega)) (fun u _ => upA_n (by omega)) (fun u => upA_n (by omega)) h5 k i hl (fun k' i' hm => upA_n (fun e => by
      obtain ⟨rfl, rfl⟩ := e
      have hk := ment_18 hm
      subst hk
      exact t ⟨Or.inl rfl, hl.2⟩))
  · obtain ⟨hk, rfl⟩ := t
    have e17 : upA A 18 0 q 17 0 = A 17 0 := upA_n (by omega)
    rcases hk with rfl | rfl
    · refine ⟨?_, fun k' i' t' hl' => ?_, fun k' i' t' hl' e => ?_⟩
      · rw [e17, up_eq]
        show _ = some (Sum.inr (4, [.inr (.inr (some (upA A 18 0 q 18 0))), .inl (jrU K g z N 80 0)]) : AC)
        rw [jrU_80, upA_s]
      · rw [e17]; exact (hne k' i' t' hl').2.symm
      · obtain ⟨hk, rfl⟩ := t'
        rcases hk with rfl | rfl
        · exact ⟨rfl, rfl⟩
        · rw [e17, upA_s] at e; exact absurd e.symm q17
    · refine ⟨?_, fun k' i' t' hl' => ?_, fun k' i' t' hl' e => ?_⟩
      · rw [upA_s, up_ne q17, up_eq]
        show _ = some (Sum.inl (0, nN (jrU K g z N) 81 0, Sum.inl (jrU K g z N 82)) : AC)
        rw [nN, jrU_81, nI_clamp hN, jrU_82]
      · rw [upA_s]; exact (hne k' i' t' hl').1.symm
      · obtain ⟨hk, rfl⟩ := t'
        rcases hk with rfl | rfl
        · rw [upA_s, e17] at e; exact absurd e q17
        · exact ⟨rfl, rfl⟩
end JR
variable {l : Launch} {Y : YT}
/-- the journal's cells with a new entry -/
def jrF (K : MS) (v s ev : Int32) (f : Nat → Int32) : Nat → Int32 := upd (upd (upd f (3 * nN K 80 0) v) (3 * nN K 80 0 + 1) s) (3 * nN K 80 0 + 2) ev
def jrnK (K : MS) (v s ev : Int32) : MS := if 3 * nN K 80 0 + 3 ≤ nN K 81 0 then jrU K (jrF K v s ev (K 82)) (nI (nN K 80 0 + 1)) (nN K 81 0) else jrU K (jrF K v s ev (trc (K 82) (nN K 81 0) 0)) (nI (nN K 80 0 + 1)) (2 * nN K 81 0)
def jcK (K : MS) : Nat := if 3 * nN K 80 0 + 3 ≤ nN K 81 0 then 0 else 2 * nN K 81 0
def jrOk (K : MS) : Prop := K 80 0 = nI (nN K 80 0) ∧ nN K 80 0 < 4000 ∧ 3 * nN K 80 0 ≤ nN K 81 0 ∧ 192 ≤ nN K 81 0 ∧ nN K 81 0 ≤ 24000
theorem jrn_o {K : MS} {v s ev : Int32} {f j : Nat} (h1 : f ≠ 82) (h2 : ¬ (f = 80 ∧ j = 0)) (h3 : ¬ (f = 81 ∧ j = 0)) : jrnK K v s ev f j = K f j := by
  unfold jrnK; split <;> exact jrU_o h1 h2 h3
set_option maxHeartbeats 1000000 in
theorem k_enter (d : Nat) (G : GH) (A : AS) (n F : Nat) (K : MS) (L : KL) (v s9 ev : Int32) (hR : KR Y G A n F K L) (hj : jrOk K) : Cd l yX3_enter cX3_enter 5 none (d + 2) ((jcK K)) ((jcK K)) Y [.inr (.inr (some (A 17 0))), .inl v, .inl s9, .inl ev] G (fun r G' => r = none ∧ ∃ A', KR Y G' A' n F (jrnK K v s9 ev) L ∧ AK A A') := by
  refine Ct.of (ini := False) (by decide +kernel) False.elim rfl (Nat.le_of_ble_eq_true rfl) ?_
  intro p e s m args below meth c C X
  obtain ⟨g1, g3, g4, g5, g6⟩ := hj
  have tl : ∀ (G1 : GH) (q N a b : Nat) (f : Nat → Int32), G1 (A 17 0) = some (.inr (4, [.inr (.inr (some q)), .inl (K 80 0)])) → G1 q = some (.inl (0, N, .inl f)) → 3 * nN K 80 0 + 3 ≤ N → N ≤ 100000 → a ≤ jcK K → b ≤ jcK K → (∀ G2, G2 = va_up (va_up G1 q (some (.inl (0, N, .inl (jrF K v s9 ev f))))) (A 17 0) (some (.inr (4, [.inr (.inr (some q)), .inl (nI (nN K 80 0 + 1))]))) → ∃ A', KR Y G2 A' n F (jrnK K v s9 ev) L ∧ AK A A') → V p l e (RM (d + 2) (((jcK K))) (((jcK K)))) s m args below meth c Y (GA G s.heap.size) (QM below args s (RM (d + 2) (((jcK K))) (((jcK K)))) Y G (fun r G' => r = none ∧ ∃ A', KR Y G' A' n F (jrnK K v s9 ev) L ∧ AK A A')) 38 G1 a b [some (.inr (.inr (some (A 17 0)))), some (.inl v), some (.inl s9), some (.inl ev), some (.inl (nI (3 * nN K 80 0)))] [] := by
    intro G1 q N a b f h1 h2 h3 h4 h5 h6 h7
    have hq : A 17 0 ≠ q := fun z => by rw [z, h2] at h1; cases h1
    refine b_X3_enter_38.go C ⟨_, h1, _, _, h2, 3 * nN K 80 0, rfl, by omega, h4, _, (up_ne hq).trans h1, _, nI_add _ _, _, _, up_eq, 3 * nN K 80 0 + 1, rfl, by omega, h4, _, (up_ne hq).trans ((up_ne hq).trans h1), _, nI_add _ _, _, _, up_eq, 3 * nN K 80 0 + 2, rfl, by omega, h4, _, (up_ne hq).trans ((up_ne hq).trans ((up_ne hq).trans h1)), nI (nN K 80 0 + 1), (congrArg (· + nI 1) g1).trans (nI_1 _), trivial, ?_⟩
    refine b_X3_enter_73.go C ⟨_, (up_ne hq).trans ((up_ne hq).trans ((up_ne hq).trans h1)), trivial, ?_⟩
    rw [bx_uu, bx_uu]
    exact V_vret C X d_X3_enter_76 h5 h6 ⟨rfl, h7 _ rfl⟩
  refine b_X3_enter_0.go C ⟨_, hR.jr, nI (3 * nN K 80 0), (congrArg (· * nI 3) g1).trans ((pk_mul _ _).trans (by rw [Nat.mul_comm])), _, nI_add _ _, _, hR.jr, nN K 81 0, Or.inl ⟨0, _, by decide, hR.jc⟩, fun h0 => ⟨trivial, ?_⟩, fun h0 => ⟨trivial, ?_⟩⟩
  · have h0 : 3 * nN K 80 0 + 3 ≤ nN K 81 0 := (nI_leI (by omega) (by omega)).mp h0
    refine tl G (A 18 0) (nN K 81 0) 0 0 (K 82) hR.jr hR.jc h0 (by omega) (Nat.zero_le _) (Nat.zero_le _) (fun G2 e => ⟨A, ?_, AK.rf A⟩)
    subst e
    unfold jrnK
    rw [if_pos h0]
    have := hR.jrGen (A 18 0) (nN K 81 0) (jrF K v s9 ev (K 82)) (nI (nN K 80 0 + 1)) (by omega) (Or.inl rfl)
    rw [up_id rfl] at this
    exact this
  · have h0 : ¬ 3 * nN K 80 0 + 3 ≤ nN K 81 0 := fun z => h0 (nI_le z (by omega))
    have hc : jcK K = 2 * nN K 81 0 := if_neg h0
    refine b_X3_enter_20.go C ⟨_, hR.jr, _, hR.jr, nN K 81 0, Or.inl ⟨0, _, by decide, hR.jc⟩, nI (2 * nN K 81 0), (pk_mul _ _).trans (by rw [Nat.mul_comm]), trivial, ?_⟩
    refine k_X3_enter_32.go C X (c_copyOfI d G (A 18 0) (nN K 81 0) (2 * nN K 81 0) (K 82) hR.jc (by omega) (by omega)) (rest := [.inr (.inr (some (A 17 0)))]) rfl rfl rfl (fun h => absurd rfl h) (lb rfl) (Rq.of (by omega) (by decide) (by show _ ≤ jcK K; omega) (by show _ ≤ jcK K; omega)) ?_
    rintro r G9 ⟨q, hq, rfl, rfl⟩
    have hjq : A 17 0 ≠ q := ne_none hR.jr hq
    refine b_X3_enter_35.go C ⟨_, (up_ne hjq).trans hR.jr, trivial, ?_⟩
    refine tl _ q (2 * nN K 81 0) _ _ (trc (K 82) (nN K 81 0) 0) up_eq ((up_ne (Ne.symm hjq)).trans up_eq) (by omega) (by omega) (by show _ ≤ jcK K; omega) (by show _ ≤ jcK K; omega) (fun G2 e => ⟨upA A 18 0 q, ?_, fun k i _ _ _ h18 => upA_n (fun z => h18 z.1)⟩)
    rw [up_comm hjq, bx_uu, bx_uu] at e
    subst e
    unfold jrnK
    rw [if_neg h0]
    exact hR.jrGen q (2 * nN K 81 0) (jrF K v s9 ev (trc (K 82) (nN K 81 0) 0)) (nI (nN K 80 0 + 1)) (by omega) (Or.inr hq)
/-- minute w is marked -/
def mrkL (L : KL) (w : Nat) : KL := if w ≤ 10000 then upL0 L (vp_updL (L 0) (w / 64) (L 0 (w / 64) ||| lN 1 <<< ((nI (w % 64)).toInt64 &&& 63))) else L
def mkB (L : KL) (w : Nat) : Bool := decide (w ≤ 10000) && bL (L 0 (w / 64)) (w % 64)
theorem k_mark (d : Nat) (G : GH) (A : AS) (n F : Nat) (K : MS) (L : KL) (w : Nat) (hR : KR Y G A n F K L) (hw : w ≤ 100000) : Cd l yX0_mark cX0_mark 2 none (d + 1) 0 0 Y [.inr (.inr (some (A 15 0))), .inl (nI w)] G (fun r G' => r = none ∧ KR Y G' A n F K (mrkL L w)) := by
  refine Ct.of (ini := False) (by decide +kernel) False.elim rfl (Nat.le_of_ble_eq_true rfl) ?_
  intro p e s m args below meth c C X
  refine b_X0_mark_0.go C ⟨trivial, ?_⟩
  refine k_X0_mark_5.go C X (c_isWithin d G (nI w) (nI 0) (nI 10000)) (rest := []) rfl rfl rfl (fun h => absurd rfl h) (lb rfl) (Rq.of (by omega) (by decide) (Nat.le_refl _) (Nat.le_refl _)) ?_
  rintro r G9 ⟨h9, rfl⟩
  replace h9 := h9.symm
  subst h9
  refine b_X0_mark_8.go C ⟨fun h8 => ⟨trivial, ?_⟩, fun h8 => ⟨trivial, ?_⟩⟩
  · have h1 : ¬ w ≤ 10000 := fun z => wi_0 h8 ⟨nI_le (Nat.zero_le _) (by omega), nI_le z (by omega)⟩
    exact V_vret C X d_X0_mark_29 (Nat.zero_le _) (Nat.zero_le _) ⟨rfl, by rw [mrkL, if_neg h1]; exact hR⟩
  have h1 : w ≤ 10000 := (nI_leI (by omega) (by omega)).mp (wi_1 h8).2
  refine b_X0_mark_11.go C ⟨_, hR.ag, by decide +kernel, _, pk_div (by omega) (by decide) (by decide), _, _, hR.am, w / 64, rfl, by omega, lb rfl, _, rfl, by decide +kernel, _, pk_rem (by omega) (by decide) (by decide), _, rfl, _, rfl, _, _, hR.am, w / 64, rfl, by omega, lb rfl, trivial, ?_⟩
  exact V_vret C X d_X0_mark_29 (Nat.zero_le _) (Nat.zero_le _) ⟨rfl, by rw [mrkL, if_pos h1]; exact hR.ag2 _⟩
theorem k_isMarked (d : Nat) (G : GH) (A : AS) (n F : Nat) (K : MS) (L : KL) (w : Nat) (hR : KR Y G A n F K L) (hw : w ≤ 100000) : Cd l yX0_isMarked cX0_isMarked 2 (some .boolean) (d + 1) 0 0 Y [.inr (.inr (some (A 15 0))), .inl (nI w)] G (fun r G' => G' = G ∧ r = some (.inl (bI (mkB L w)))) := by
  refine Ct.of (ini := False) (by decide +kernel) False.elim rfl (Nat.le_of_ble_eq_true rfl) ?_
  intro p e s m args below meth c C X
  refine b_X0_isMarked_0.go C ⟨trivial, ?_⟩
  refine k_X0_isMarked_5.go C X (c_isWithin d G (nI w) (nI 0) (nI 10000)) (rest := []) rfl rfl rfl (fun h => absurd rfl h) (lb rfl) (Rq.of (by omega) (by decide) (Nat.le_refl _) (Nat.le_refl _)) ?_
  rintro r G9 ⟨h9, rfl⟩
  replace h9 := h9.symm
  subst h9
  have no : mkB L w = false → V p l e (RM (d + 1) 0 0) s m args below meth c Y (GA G s.heap.size) (QM below args s (RM (d + 1) 0 0) Y G (fun r G' => G' = G ∧ r = some (.inl (bI (mkB L w))))) 36 G 0 0 [some (.inr (.inr (some (A 15 0)))), some (.inl (nI w))] [] := by
    intro h
    refine b_X0_isMarked_36.go C ⟨trivial, ?_⟩
    exact V_zret C X d_X0_isMarked_37 z0 (Nat.zero_le _) (Nat.zero_le _) ⟨rfl, by rw [h]; rfl⟩
  refine b_X0_isMarked_8.go C ⟨fun h8 => ⟨trivial, ?_⟩, fun h8 => ⟨trivial, ?_⟩⟩
  · have h1 : ¬ w ≤ 10000 := fun z => wi_0 h8 ⟨nI_le (Nat.zero_le _) (by omega), nI_le z (by omega)⟩
    exact no (by rw [mkB, decide_eq_false h1]; rfl)
  have h1 : w ≤ 10000 := (nI_leI (by omega) (by omega)).mp (wi_1 h8).2
  refine b_X0_isMarked_11.go C ⟨_, hR.ag, by decide +kernel, _, pk_div (by omega) (by decide) (by decide), _, _, hR.am, w / 64, rfl, by omega, lb rfl, _, rfl, by decide +kernel, _, pk_rem (by omega) (by decide) (by decide), _, rfl, _, rfl, _, rfl, fun h11 => ⟨trivial, ?_⟩, fun h11 => ⟨trivial, ?_⟩⟩
  · exact no (by rw [mkB, (bL_test (w % 64) (by omega) _).mp h11, Bool.and_false])
  · have h2 : bL (L 0 (w / 64)) (w % 64) = true := by
      cases h3 : bL (L 0 (w / 64)) (w % 64)
      · exact absurd ((bL_test (w % 64) (by omega) _).mpr h3) h11
      · rfl
    refine b_X0_isMarked_32.go C ⟨trivial, ?_⟩
    exact V_zret C X d_X0_isMarked_37 z1 (Nat.zero_le _) (Nat.zero_le _) ⟨rfl, by rw [mkB, h2, decide_eq_true h1]; rfl⟩
/-- does stage i hang on stage u? -/
def hgB (L : KL) (i u : Nat) : Bool := bL (L (1 + i) (u / 64)) (u % 64)
theorem k_hangsOn (d : Nat) (G : GH) (A : AS) (n F : Nat) (K : MS) (L : KL) (i0 u : Nat) (hR : KR Y G A n F K L) (hi : 1 ≤ i0 ∧ i0 ≤ n) (hu : 1 ≤ u ∧ u ≤ n) (hnu : K 10 u = nI u) : Cd l yX6_hangsOn cX6_hangsOn 2 (some .boolean) d 0 0 Y [.inr (.inr (some (A 1 i0))), .inr (.inr (some (A 1 u)))] G (fun r G' => G' = G ∧ r = some (.inl (bI (hgB L i0 u)))) := by
  refine Ct.of (ini := False) (by decide +kernel) False.elim rfl (Nat.le_of_ble_eq_true rfl) ?_
  intro p e s m args below meth c C X
  have hn := hR.2.2.1
  refine b_X6_hangsOn_0.go C ⟨_, _, hR.st hi, stC_ci _, _, _, hR.st hu, stC_ci _, by decide +kernel, nI (u / 64), (congrArg (· / nI 64) hnu).trans (pk_div (by omega) (by decide) (by decide)), _, _, hR.hg hi, u / 64, rfl, by omega, lb rfl, _, rfl, _, _, hR.st hu, stC_ci _, by decide +kernel, nI (u % 64), (show K 10 u - K 10 u / nI 64 * nI 64 = _ by rw [hnu]; exact pk_rem (by omega) (by decide) (by decide)), _, rfl, _, rfl, _, rfl, fun h0 => ⟨trivial, ?_⟩, fun h0 => ⟨trivial, ?_⟩⟩
  · have h2 : hgB L i0 u = false := (bL_test (u % 64) (by omega) _).mp h0
    refine b_X6_hangsOn_31.go C ⟨trivial, ?_⟩
    exact V_zret C X d_X6_hangsOn_32 z0 (Nat.zero_le _) (Nat.zero_le _) ⟨rfl, by rw [h2]; rfl⟩
  · have h2 : hgB L i0 u = true := by
      cases h3 : hgB L i0 u
      · exact absurd ((bL_test (u % 64) (by omega) _).mpr h3) h0
      · rfl
    refine b_X6_hangsOn_27.go C ⟨trivial, ?_⟩
    exact V_zret C X d_X6_hangsOn_32 z1 (Nat.zero_le _) (Nat.zero_le _) ⟨rfl, by rw [h2]; rfl⟩
end CLG
