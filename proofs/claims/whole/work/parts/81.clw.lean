/-! the class: a new stage in its heap -/
section CLW
section NEWS
variable {Y : YT} {G G' : GH} {A : AS} {n F : Nat} {K : MS} {L : KL}
theorem cel_L2 {L' : KL} : ∀ (k i : Nat), (k = 3 → L' (1 + i) = L (1 + i)) → (k = 16 → L' 0 = L 0) → cel Y A K L' k i = cel Y A K L k i := by
  intro k i h3 h16
  unfold cel
  split <;> first | rfl | (rw [h3 rfl]) | (rw [h16 rfl])
def stgK (K : MS) (t : Nat) (σ : Nat → Int32) (N : Nat) (inp : Nat → Int32) (tm : Nat) : MS := fun f j => if f = 1000 + t then inp j else if f = 2000 + t ∨ f = 3000 + t then 0 else if j = t ∧ 10 ≤ f ∧ f < 36 then (if f = 12 then nI N else if f = 18 ∨ f = 31 then 0 else if f = 34 ∨ f = 35 then nI tm else σ (f - 10)) else K f j
theorem stg_o {t N tm f j : Nat} {σ inp : Nat → Int32} (h1 : f ≠ 1000 + t) (h2 : f ≠ 2000 + t) (h3 : f ≠ 3000 + t) (h4 : ¬ (j = t ∧ 10 ≤ f ∧ f < 36)) : stgK K t σ N inp tm f j = K f j := by
  unfold stgK; rw [if_neg h1, if_neg (by omega), if_neg h4]
theorem stg_s {t N tm f : Nat} {σ inp : Nat → Int32} (ht : t < 1000) (h1 : 10 ≤ f) (h2 : f < 36) : stgK K t σ N inp tm f t = if f = 12 then nI N else if f = 18 ∨ f = 31 then 0 else if f = 34 ∨ f = 35 then nI tm else σ (f - 10) := by
  unfold stgK; rw [if_neg (by omega), if_neg (by omega), if_pos ⟨rfl, h1, h2⟩]
theorem stg_r {t N tm j : Nat} {σ inp : Nat → Int32} : stgK K t σ N inp tm (1000 + t) j = inp j := if_pos rfl
theorem stg_z {t N tm f j : Nat} {σ inp : Nat → Int32} (hf : f = 2000 + t ∨ f = 3000 + t) : stgK K t σ N inp tm f j = 0 := by
  unfold stgK; rw [if_neg (by omega), if_pos hf]
theorem own_st {f j k i t : Nat} (ho : own f j = (k, i)) (h : f = 1000 + t ∨ f = 2000 + t ∨ f = 3000 + t ∨ (j = t ∧ 10 ≤ f ∧ f < 36)) (ht : t < 1000) : (k = 1 ∨ k = 2 ∨ k = 3 ∨ k = 4 ∨ k = 5) ∧ i = t := by
  rcases h with rfl | rfl | rfl | ⟨rfl, h1, h2⟩
  · rw [own_2 j ht] at ho; cases ho; exact ⟨by omega, rfl⟩
  · rw [own_4 j ht] at ho; cases ho; exact ⟨by omega, rfl⟩
  · rw [own_5 j ht] at ho; cases ho; exact ⟨by omega, rfl⟩
  · by_cases e12 : f = 12
    · subst e12; cases ho; exact ⟨by omega, rfl⟩
    · by_cases e34 : f = 34
      · subst e34; cases ho; exact ⟨by omega, rfl⟩
      · by_cases e35 : f = 35
        · subst e35; cases ho; exact ⟨by omega, rfl⟩
        · have e := own_1 (j := f - 10) (i := j) (by omega) (by omega) (by omega) (by omega)
          rw [show 10 + (f - 10) = f by omega] at e
          rw [e] at ho; cases ho; exact ⟨by omega, rfl⟩
theorem ment_s {k i k' t : Nat} (h : ment k i k' t) (hk : k' = 1 ∨ k' = 2 ∨ k' = 3 ∨ k' = 4 ∨ k' = 5) : k = 1 ∧ i = t := by
  unfold ment at h
  split at h <;> first | omega | exact h.elim
/-- the places of a new stage -/
def nwA (A : AS) (t : Nat) (Q : Nat → Nat) : AS := fun k i => if (k = 1 ∨ k = 2 ∨ k = 3 ∨ k = 4 ∨ k = 5) ∧ i = t then Q k else A k i
theorem nwA_n {t k i : Nat} {Q : Nat → Nat} (h : ¬ ((k = 1 ∨ k = 2 ∨ k = 3 ∨ k = 4 ∨ k = 5) ∧ i = t)) : nwA A t Q k i = A k i := if_neg h
theorem nwA_s {t k : Nat} {Q : Nat → Nat} (h : k = 1 ∨ k = 2 ∨ k = 3 ∨ k = 4 ∨ k = 5) : nwA A t Q k t = Q k := if_pos ⟨h, rfl⟩
def upLt (L : KL) (t : Nat) (g : Nat → Int64) : KL := fun f => if f = 1 + t then g else L f
theorem KR.newS (h : KR Y G A n F K L) (hn : n + 1 ≤ 201) {w : Bool} {σ : Nat → Int32} {ρ : Nat → Option Nat} {N tm : Nat} {inp : Nat → Int32} {lh : Nat → Int64} (Q : Nat → Nat) (hN : N ≤ 100000) (htm : tm ≤ 100000) (hin : ∀ j, (inp j).toNatClampNeg ≤ n) (hold : ∀ a, G a ≠ none → G' a = G a) (hfr : ∀ k, (k = 1 ∨ k = 2 ∨ k = 3 ∨ (w = true ∧ (k = 4 ∨ k = 5))) → G (Q k) = none) (hdi : ∀ k k', (k = 1 ∨ k = 2 ∨ k = 3 ∨ (w = true ∧ (k = 4 ∨ k = 5))) → (k' = 1 ∨ k' = 2 ∨ k' = 3 ∨ (w = true ∧ (k' = 4 ∨ k' = 5))) → Q k = Q k' → k = k') (h1 : G' (Q 1) = some (stC w σ ρ)) (h2 : G' (Q 2) = some (oar 5 N (fun j => dec A 1 (inp j)))) (h3 : G' (Q 3) = some (.inl (1, 4, .inr (.inl lh)))) (h45 : w = true → G' (Q 4) = some (.inl (0, tm, .inl (fun _ => 0))) ∧ G' (Q 5) = some (oar 4 tm (fun _ => none))) (hw : decide (nI 1 ≤ σ 1 ∧ σ 1 ≤ nI 4) = w) (r2 : ρ 2 = some (Q 2)) (r5 : ρ 5 = some (Q 3)) (r8 : ρ 8 = none) (r21 : ρ 21 = none) (r24 : ρ 24 = some (Q 4)) (r25 : ρ 25 = some (Q 5)) : KR Y G' (nwA A (n + 1) Q) (n + 1) F (stgK K (n + 1) σ N inp tm) (upLt L (n + 1) lh) := by
  have hR := h
  obtain ⟨g1, g2, g3, g4, g5⟩ := h
  have e11 : ∀ i, i ≠ n + 1 → stgK K (n + 1) σ N inp tm 11 i = K 11 i := fun i hi => stg_o (by omega) (by omega) (by omega) (by omega)
  have e65 : ∀ i, stgK K (n + 1) σ N inp tm 65 i = K 65 i := fun i => stg_o (by omega) (by omega) (by omega) (by omega)
  have ew : isWK (stgK K (n + 1) σ N inp tm) (n + 1) = w := by
    unfold isWK
    rw [stg_s (by omega) (by decide) (by decide), if_neg (by decide), if_neg (by decide), if_neg (by decide)]
    exact hw
  have hlv : ∀ k i, ¬ ((k = 1 ∨ k = 2 ∨ k = 3 ∨ k = 4 ∨ k = 5) ∧ i = n + 1) → liv (n + 1) F (stgK K (n + 1) σ N inp tm) k i → liv n F K k i := by
    intro k i t hl
    unfold liv at hl ⊢
    split at hl <;> first
      | exact ⟨hl.1, by have := hl.2; omega⟩
      | exact ⟨⟨hl.1.1, by have := hl.1.2; omega⟩, by have := hl.2; unfold isWK at this ⊢; rw [e11 i (by omega)] at this; exact this⟩
      | (refine ⟨hl.1, fun z => hl.2 ?_⟩; rw [e65]; exact z)
      | exact hl
  have hKo : ∀ k i, ¬ ((k = 1 ∨ k = 2 ∨ k = 3 ∨ k = 4 ∨ k = 5) ∧ i = n + 1) → ∀ f j, own f j = (k, i) → stgK K (n + 1) σ N inp tm f j = K f j := by
    intro k i t f j ho
    exact stg_o (fun e => t (own_st (t := n + 1) ho (by omega) (by omega))) (fun e => t (own_st (t := n + 1) ho (by omega) (by omega))) (fun e => t (own_st (t := n + 1) ho (by omega) (by omega))) (fun e => t (own_st (t := n + 1) ho (Or.inr (Or.inr (Or.inr e))) (by omega)))
  have hli : ∀ k, ((k = 1 ∨ k = 2 ∨ k = 3 ∨ k = 4 ∨ k = 5)) → liv (n + 1) F (stgK K (n + 1) σ N inp tm) k (n + 1) → (k = 1 ∨ k = 2 ∨ k = 3 ∨ (w = true ∧ (k = 4 ∨ k = 5))) := by
    intro k hk hl
    rcases hk with rfl | rfl | rfl | rfl | rfl
    · exact Or.inl rfl
    · exact Or.inr (Or.inl rfl)
    · exact Or.inr (Or.inr (Or.inl rfl))
    · exact Or.inr (Or.inr (Or.inr ⟨ew ▸ hl.2, Or.inl rfl⟩))
    · exact Or.inr (Or.inr (Or.inr ⟨ew ▸ hl.2, Or.inr rfl⟩))
  refine hR.ext (fun k i => (k = 1 ∨ k = 2 ∨ k = 3 ∨ k = 4 ∨ k = 5) ∧ i = n + 1) hn g4 ⟨fun f j hs hl => ?_, fun f j hs hl => ?_⟩ (fun k i t => nwA_n t) hlv (fun k i t hl => ?_) (fun k i t hl => ?_) (fun k i t hl => ?_)
  · by_cases e : f = 1000 + (n + 1)
    · subst e
      rw [nN, stg_r]
      exact Nat.le_succ_of_le (hin j)
    · have hs2 := of_decide_eq_true hs
      rw [nN, stg_o e (by omega) (by omega) (by omega)]
      refine Nat.le_succ_of_le (g5.1 f j hs (hlv _ _ (fun t => ?_) hl))
      rcases own_sr (j := j) hs with o | ⟨i, hf, -, o⟩ | ⟨i, hf, o⟩
      · rw [o] at t; exact absurd t.1 (by simp)
      · rw [o] at t; exact e (by rw [hf, ← t.2])
      · rw [o] at t; exact absurd t.1 (by simp)
  · have hs2 := of_decide_eq_true hs
    by_cases e : f = 3000 + (n + 1)
    · rw [nN, stg_z (Or.inr e)]; exact Nat.zero_le _
    · by_cases e2 : f = 18 ∧ j = n + 1
      · rw [e2.1, e2.2, nN, stg_s (by omega) (by decide) (by decide), if_neg (by decide), if_pos (Or.inl rfl)]; exact Nat.zero_le _
      · rw [nN, stg_o (by omega) (by omega) e (by omega)]
        refine g5.2 f j hs (hlv _ _ (fun t => ?_) hl)
        rcases own_fr (j := j) hs with o | o | ⟨i, hf, -, o⟩ | ⟨i, -, o⟩
        · rw [o] at t
          have : f = 18 := by
            rcases hs2 with z | z | z | z | z
            · exact z
            · subst z; cases o
            · subst z; cases o
            · obtain ⟨u, rfl⟩ : ∃ u, f = 3000 + u := ⟨f - 3000, by omega⟩
              rw [own_5 j (by omega)] at o; cases o
            · obtain ⟨u, rfl⟩ : ∃ u, f = 10000 + u := ⟨f - 10000, by omega⟩
              rw [own_7 j] at o; cases o
          exact e2 ⟨this, t.2⟩
        · rw [o] at t; exact absurd t.1 (by simp)
        · rw [o] at t; exact e (by rw [hf, ← t.2])
        · rw [o] at t; exact absurd t.1 (by simp)
  · exact hold _ (by rw [g1 k i hl]; exact fun z => by cases z)
  · rw [cel_L2 (L := L) (L' := upLt L (n + 1) lh) k i (fun e => by subst e; unfold upLt; rw [if_neg (by intro z; exact t ⟨by omega, by omega⟩)]) (fun _ => by unfold upLt; rw [if_neg (by omega)])]
    rw [← cel_own g3 k i hl (fun f j ho => (hKo k i t f j ho).symm)]
    exact cel_A g3 (fun u hu => nwA_n (by omega)) (fun u _ => nwA_n (by omega)) (fun u => nwA_n (by omega)) g5 k i hl (fun k' i' hm => nwA_n (fun e => by
      obtain ⟨e1, rfl⟩ := e
      have := ment_s hm e1
      exact t ⟨Or.inl this.1, this.2⟩))
  · obtain ⟨hk, rfl⟩ := t
    have hk2 := hli k hk hl
    refine ⟨?_, fun k' i' t' hl' => ?_, fun k' i' t' hl' e => ?_⟩
    · rw [nwA_s hk]
      rcases hk with rfl | rfl | rfl | rfl | rfl
      · rw [h1]
        show _ = some (stC (isWK (stgK K (n + 1) σ N inp tm) (n + 1)) (sgK (stgK K (n + 1) σ N inp tm) (n + 1)) (rhK (nwA A (n + 1) Q) (stgK K (n + 1) σ N inp tm) (n + 1)))
        rw [ew]
        refine congrArg some (sg_congr (fun j a b c' d' e' f' g' => ?_) (fun j hj => ?_))
        · show σ j = stgK K (n + 1) σ N inp tm (10 + j) (n + 1)
          rw [stg_s (by omega) (by omega) (by omega), if_neg (by omega), if_neg (by omega), if_neg (by omega), Nat.add_sub_cancel_left]
        · rcases hj with rfl | rfl | rfl | rfl | rfl | rfl
          · rw [r2]; show _ = some (nwA A (n + 1) Q 2 (n + 1)); rw [nwA_s (by omega)]
          · rw [r5]; show _ = some (nwA A (n + 1) Q 3 (n + 1)); rw [nwA_s (by omega)]
          · rw [r8]; show _ = dec (nwA A (n + 1) Q) 6 (stgK K (n + 1) σ N inp tm 18 (n + 1)); rw [stg_s (by omega) (by decide) (by decide), if_neg (by decide), if_pos (Or.inl rfl), dec_0 rfl]
          · rw [r21]; show _ = dec (nwA A (n + 1) Q) 8 (stgK K (n + 1) σ N inp tm 31 (n + 1)); rw [stg_s (by omega) (by decide) (by decide), if_neg (by decide), if_pos (Or.inr rfl), dec_0 rfl]
          · rw [r24]; show _ = some (nwA A (n + 1) Q 4 (n + 1)); rw [nwA_s (by omega)]
          · rw [r25]; show _ = some (nwA A (n + 1) Q 5 (n + 1)); rw [nwA_s (by omega)]
      · rw [h2]
        show _ = some (oar 5 (nN (stgK K (n + 1) σ N inp tm) 12 (n + 1)) (fun j => dec (nwA A (n + 1) Q) 1 (stgK K (n + 1) σ N inp tm (1000 + (n + 1)) j)))
        rw [nN, stg_s (by omega) (by decide) (by decide), if_pos rfl, nI_clamp (by omega)]
        refine congrArg some (congrArg (oar 5 N) (funext (fun j => ?_)))
        rw [stg_r]
        exact (dec_cg (N := n) (fun u hu => nwA_n (by omega)) (hin j)).symm
      · rw [h3]
        show _ = some (Sum.inl (1, 4, Sum.inr (Sum.inl (upLt L (n + 1) lh (1 + (n + 1))))) : AC)
        unfold upLt; rw [if_pos rfl]
      · have hwt : w = true := by rcases hk2 with z | z | z | z <;> first | omega | exact z.1
        rw [(h45 hwt).1]
        show _ = some (Sum.inl (0, nN (stgK K (n + 1) σ N inp tm) 34 (n + 1), Sum.inl (stgK K (n + 1) σ N inp tm (2000 + (n + 1)))) : AC)
        rw [nN, stg_s (by omega) (by decide) (by decide), if_neg (by decide), if_neg (by decide), if_pos (Or.inl rfl), nI_clamp (by omega), show stgK K (n + 1) σ N inp tm (2000 + (n + 1)) = (fun _ => 0) from funext (fun j => stg_z (Or.inl rfl))]
      · have hwt : w = true := by rcases hk2 with z | z | z | z <;> first | omega | exact z.1
        rw [(h45 hwt).2]
        show _ = some (oar 4 (nN (stgK K (n + 1) σ N inp tm) 35 (n + 1)) (fun j => dec (nwA A (n + 1) Q) 6 (stgK K (n + 1) σ N inp tm (3000 + (n + 1)) j)))
        rw [nN, stg_s (by omega) (by decide) (by decide), if_neg (by decide), if_neg (by decide), if_pos (Or.inr rfl), nI_clamp (by omega)]
        refine congrArg some (congrArg (oar 4 tm) (funext (fun j => ?_)))
        rw [stg_z (Or.inr rfl), dec_0 rfl]
    · rw [nwA_s hk]
      exact (ne_none (g1 k' i' hl') (hfr k hk2)).symm
    · obtain ⟨hk', rfl⟩ := t'
      rw [nwA_s hk, nwA_s hk'] at e
      exact ⟨hdi k k' hk2 (hli k' hk' hl') e, rfl⟩
/-- what isn't there any more -/
theorem KR.less (h : KR Y G A (n + 1) F K L) (h1 : 1 ≤ n ∨ n = 0) (hr : RB n F K) : KR Y G A n F K L := by
  obtain ⟨g1, g2, g3, g4, -⟩ := h
  have hlv : ∀ k i, liv n F K k i → liv (n + 1) F K k i := by
    intro k i hl
    unfold liv at hl ⊢
    split at hl <;> first
      | exact ⟨hl.1, Nat.le_succ_of_le hl.2⟩
      | exact ⟨⟨hl.1.1, Nat.le_succ_of_le hl.1.2⟩, hl.2⟩
      | exact hl
  exact ⟨fun k i hl => g1 k i (hlv k i hl), fun k i k' i' hl hl' => g2 k i k' i' (hlv k i hl) (hlv k' i' hl'), by omega, g4, hr⟩
end NEWS
end CLW
