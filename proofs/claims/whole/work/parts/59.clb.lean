/-! the class: a new failure; the rules of then, both, first, all, onFailure -/
section CLB
section NEWF
variable {Y : YT} {G : GH} {A : AS} {n F : Nat} {K : MS} {L : KL}
def newFK (K : MS) (f : Nat) (kd at' ca : Int32) (ns : Nat) (sup : Nat → Int32) : MS := fun g j => if g = 10000 + f then sup j else if j = f ∧ 50 ≤ g ∧ g ≤ 58 then (if g = 50 then kd else if g = 51 then at' else if g = 52 then ca else if g = 53 then nI ns else 0) else K g j
theorem newFK_o {f g j ns : Nat} {kd at' ca : Int32} {sup : Nat → Int32} (h1 : g ≠ 10000 + f) (h2 : ¬ (j = f ∧ 50 ≤ g ∧ g ≤ 58)) : newFK K f kd at' ca ns sup g j = K g j := by unfold newFK; rw [if_neg h1, if_neg h2]
theorem newFK_r {f j ns : Nat} {kd at' ca : Int32} {sup : Nat → Int32} : newFK K f kd at' ca ns sup (10000 + f) j = sup j := if_pos rfl
theorem newFK_50 {f ns : Nat} {kd at' ca : Int32} {sup : Nat → Int32} : newFK K f kd at' ca ns sup 50 f = kd := by unfold newFK; rw [if_neg (by omega), if_pos ⟨rfl, by decide, by decide⟩, if_pos rfl]
theorem newFK_51 {f ns : Nat} {kd at' ca : Int32} {sup : Nat → Int32} : newFK K f kd at' ca ns sup 51 f = at' := by unfold newFK; rw [if_neg (by omega), if_pos ⟨rfl, by decide, by decide⟩, if_neg (by decide), if_pos rfl]
theorem newFK_52 {f ns : Nat} {kd at' ca : Int32} {sup : Nat → Int32} : newFK K f kd at' ca ns sup 52 f = ca := by unfold newFK; rw [if_neg (by omega), if_pos ⟨rfl, by decide, by decide⟩, if_neg (by decide), if_neg (by decide), if_pos rfl]
theorem newFK_53 {f ns : Nat} {kd at' ca : Int32} {sup : Nat → Int32} : newFK K f kd at' ca ns sup 53 f = nI ns := by unfold newFK; rw [if_neg (by omega), if_pos ⟨rfl, by decide, by decide⟩, if_neg (by decide), if_neg (by decide), if_neg (by decide), if_pos rfl]
theorem newFK_z {f g ns : Nat} {kd at' ca : Int32} {sup : Nat → Int32} (h1 : 54 ≤ g) (h2 : g ≤ 58) : newFK K f kd at' ca ns sup g f = 0 := by unfold newFK; rw [if_neg (by omega), if_pos ⟨rfl, by omega, h2⟩, if_neg (by omega), if_neg (by omega), if_neg (by omega), if_neg (by omega)]
theorem own_6 {f j k i : Nat} (h : own f j = (k, i)) (hf : 50 ≤ f) (hf2 : f ≤ 58) : (k = 6 ∨ k = 7) ∧ i = j := by
  have : f = 50 ∨ f = 51 ∨ f = 52 ∨ f = 53 ∨ f = 54 ∨ f = 55 ∨ f = 56 ∨ f = 57 ∨ f = 58 := by omega
  rcases this with rfl | rfl | rfl | rfl | rfl | rfl | rfl | rfl | rfl <;> cases h <;> exact ⟨by omega, rfl⟩
theorem ment_67 {k i k' f : Nat} (h : ment k i k' f) (hk : k' = 6 ∨ k' = 7) : k = 6 ∧ i = f := by
  unfold ment at h
  split at h <;> first | omega | exact h.elim
theorem KR.newF (h : KR Y G A n F K L) (hF : F + 1 ≤ 2000) {qs qf ns : Nat} {kd at' ca : Int32} {sup : Nat → Int32} (hs : G qs = none) (hf : G qf = none) (hne : qs ≠ qf) (hca : ca.toNatClampNeg ≤ F) (hsup : ∀ j, (sup j).toNatClampNeg ≤ F) (hns : ns ≤ 100000) : KR Y (va_up (va_up G qs (some (oar 4 ns (fun j => dec A 6 (sup j))))) qf (some (fC kd at' (dec A 6 ca) (some qs) (nI 0) (nI 0) (nI 0) (nI 0) none))) (upA (upA A 7 (F + 1) qs) 6 (F + 1) qf) n (F + 1) (newFK K (F + 1) kd at' ca ns sup) L := by
  have hR := h
  obtain ⟨h1, h2, h3, h4, h5⟩ := h
  have hA : ∀ k i, ¬ ((k = 6 ∨ k = 7) ∧ i = F + 1) → upA (upA A 7 (F + 1) qs) 6 (F + 1) qf k i = A k i := fun k i t => by rw [upA_n (fun e => t ⟨Or.inl e.1, e.2⟩), upA_n (fun e => t ⟨Or.inr e.1, e.2⟩)]
  have h6 : ∀ u, u ≤ F → upA (upA A 7 (F + 1) qs) 6 (F + 1) qf 6 u = A 6 u := fun u hu => hA 6 u (by omega)
  have hKo : ∀ k i, ¬ ((k = 6 ∨ k = 7) ∧ i = F + 1) → ∀ f j, own f j = (k, i) → newFK K (F + 1) kd at' ca ns sup f j = K f j := by
    intro k i t f j ho
    refine newFK_o (fun e => t ?_) (fun e => t ?_)
    · rw [e, own_7 j] at ho; cases ho; exact ⟨Or.inr rfl, rfl⟩
    · obtain ⟨rfl, e1, e2⟩ := e
      exact own_6 ho e1 e2
  have e11 : ∀ j, newFK K (F + 1) kd at' ca ns sup 11 j = K 11 j := fun j => newFK_o (by omega) (by omega)
  have e65 : ∀ j, newFK K (F + 1) kd at' ca ns sup 65 j = K 65 j := fun j => newFK_o (by omega) (by omega)
  have hlv : ∀ k i, ¬ ((k = 6 ∨ k = 7) ∧ i = F + 1) → liv n (F + 1) (newFK K (F + 1) kd at' ca ns sup) k i → liv n F K k i := by
    intro k i t hl
    rw [liv_eq e11 e65] at hl
    unfold liv at hl ⊢
    split at hl <;> first | exact hl | omega
  have hnn : ∀ k i, liv n F K k i → A k i ≠ qs ∧ A k i ≠ qf := fun k i hl => ⟨ne_none (h1 k i hl) hs, ne_none (h1 k i hl) hf⟩
  refine hR.ext (fun k i => (k = 6 ∨ k = 7) ∧ i = F + 1) h3 hF ⟨fun f j hs' hl => ?_, fun f j hs' hl => ?_⟩ hA hlv (fun k i t hl => ?_) (fun k i t hl => ?_) (fun k i t hl => ?_)
  · have hs2 := of_decide_eq_true hs'
    rw [nN, newFK_o (by omega) (by omega)]
    refine h5.1 f j hs' (hlv _ _ (fun t => ?_) hl)
    rcases own_sr (j := j) hs' with o | ⟨i, -, -, o⟩ | ⟨i, hf', o⟩ <;> (rw [o] at t; exact absurd t.1 (by simp))
  · by_cases q : (own f j).2 = F + 1 ∧ ((own f j).1 = 6 ∨ (own f j).1 = 7)
    · have hs2 := of_decide_eq_true hs'
      rcases own_fr (j := j) hs' with o | o | ⟨i, -, -, o⟩ | ⟨i, hi, o⟩
      · rw [o] at q; exact absurd q.2 (by simp)
      · rw [o] at q
        have hj : j = F + 1 := q.1
        subst hj
        have : f = 52 ∨ f = 58 := by
          rcases hs2 with rfl | rfl | rfl | z | z
          · cases o
          · exact Or.inl rfl
          · exact Or.inr rfl
          · obtain ⟨u, rfl⟩ : ∃ u, f = 3000 + u := ⟨f - 3000, by omega⟩
            rw [own_5 _ (by omega)] at o; cases o
          · obtain ⟨u, rfl⟩ : ∃ u, f = 10000 + u := ⟨f - 10000, by omega⟩
            rw [own_7] at o; cases o
        rcases this with rfl | rfl
        · rw [nN, newFK_52]; omega
        · rw [nN, newFK_z (by decide) (by decide)]; exact Nat.zero_le _
      · rw [o] at q; exact absurd q.2 (by simp)
      · rw [o] at q
        have hi2 : i = F + 1 := q.1
        subst hi2
        rw [nN, hi, newFK_r]
        have := hsup j; omega
    · have t : ¬ (((own f j).1 = 6 ∨ (own f j).1 = 7) ∧ (own f j).2 = F + 1) := fun t => q ⟨t.2, t.1⟩
      rw [nN, hKo _ _ t f j rfl]
      have := h5.2 f j hs' (hlv _ _ t hl)
      rw [nN] at this; omega
  · rw [up_ne (hnn k i hl).2, up_ne (hnn k i hl).1]
  · rw [← cel_own h3 k i hl (fun f j ho => (hKo k i t f j ho).symm)]
    exact cel_A h3 (fun u _ => hA 1 u (by omega)) h6 (fun u => hA 8 u (by omega)) h5 k i hl (fun k' i' hm => hA k' i' (fun e => t ⟨Or.inl (ment_67 (e.2 ▸ hm) e.1).1, (ment_67 (e.2 ▸ hm) e.1).2⟩))
  · obtain ⟨hk, rfl⟩ := t
    have eA6 : upA (upA A 7 (F + 1) qs) 6 (F + 1) qf 6 (F + 1) = qf := upA_s _ _ _ _
    have eA7 : upA (upA A 7 (F + 1) qs) 6 (F + 1) qf 7 (F + 1) = qs := by rw [upA_n (by omega), upA_s]
    have dc : ∀ v : Int32, v.toNatClampNeg ≤ F → dec (upA (upA A 7 (F + 1) qs) 6 (F + 1) qf) 6 v = dec A 6 v := fun v hv => dec_cg h6 hv
    rcases hk with rfl | rfl
    · refine ⟨?_, fun k' i' t' hl' => by rw [eA6]; exact (hnn k' i' hl').2.symm, fun k' i' t' hl' e => ?_⟩
      · rw [eA6, up_eq]
        show _ = some (fC (newFK K (F + 1) kd at' ca ns sup 50 (F + 1)) (newFK K (F + 1) kd at' ca ns sup 51 (F + 1)) (dec (upA (upA A 7 (F + 1) qs) 6 (F + 1) qf) 6 (newFK K (F + 1) kd at' ca ns sup 52 (F + 1))) (some (upA (upA A 7 (F + 1) qs) 6 (F + 1) qf 7 (F + 1))) (newFK K (F + 1) kd at' ca ns sup 54 (F + 1)) (newFK K (F + 1) kd at' ca ns sup 55 (F + 1)) (newFK K (F + 1) kd at' ca ns sup 56 (F + 1)) (newFK K (F + 1) kd at' ca ns sup 57 (F + 1)) (dec (upA (upA A 7 (F + 1) qs) 6 (F + 1) qf) 6 (newFK K (F + 1) kd at' ca ns sup 58 (F + 1))))
        rw [newFK_50, newFK_51, newFK_52, newFK_z (by decide) (by decide), newFK_z (by decide) (by decide), newFK_z (by decide) (by decide), newFK_z (by decide) (by decide), newFK_z (by decide) (by decide), eA7, dc ca hca, dec_0 rfl, nI_0]
      · obtain ⟨hk', rfl⟩ := t'
        rcases hk' with rfl | rfl
        · exact ⟨rfl, rfl⟩
        · rw [eA6, eA7] at e; exact absurd e.symm hne
    · refine ⟨?_, fun k' i' t' hl' => by rw [eA7]; exact (hnn k' i' hl').1.symm, fun k' i' t' hl' e => ?_⟩
      · rw [eA7, up_ne hne, up_eq]
        show _ = some (oar 4 (nN (newFK K (F + 1) kd at' ca ns sup) 53 (F + 1)) (fun j => dec (upA (upA A 7 (F + 1) qs) 6 (F + 1) qf) 6 (newFK K (F + 1) kd at' ca ns sup (10000 + (F + 1)) j)))
        rw [nN, newFK_53, nI_clamp (by omega)]
        refine congrArg some (oar_cg (fun j => ?_))
        rw [newFK_r, dc _ (hsup j)]
      · obtain ⟨hk', rfl⟩ := t'
        rcases hk' with rfl | rfl
        · rw [eA6, eA7] at e; exact absurd e hne
        · exact ⟨rfl, rfl⟩
theorem KR.ne1 (h : KR Y G A n F K L) {i u : Nat} (hi : 1 ≤ i ∧ i ≤ n) (hu : 1 ≤ u ∧ u ≤ n) (hne : u ≠ i) : A 1 u ≠ A 1 i := fun e => hne (h.2.1 1 u 1 i hu hi e).2
end NEWF
end CLB
