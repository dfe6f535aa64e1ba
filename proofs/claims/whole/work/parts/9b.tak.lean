/-! taking, waiting, going on, pausing: in the reference -/
section TAKS
variable {n k w x x' y y' : Nat} {M M' : MS}
theorem pl_add {c b : Nat} (hq : ∀ c, c ≤ 12 → nN M 47 c ≤ 200) (hc : c ≤ 12) (e46 : nN M' 46 = va_up (nN M 46) (201 * c + nN M 47 c) b) (e47 : nN M' 47 = va_up (nN M 47) c (nN M 47 c + 1)) : ∀ c', c' ≤ 12 → plM M' c' = if c' = c then plM M c ++ [b] else plM M c' := by
  intro c' hc'
  have q1 := hq c hc
  have q2 := hq c' hc'
  unfold plM
  rw [e46, e47]
  by_cases h : c' = c
  · subst h
    rw [vu_s, if_pos rfl, List.range_succ, List.map_append, List.map_cons, List.map_nil, vu_s]
    congr 1
    refine List.map_congr_left (fun j hj => ?_)
    have := List.mem_range.mp hj
    rw [vu_n (by omega)]
  · rw [vu_n h, if_neg h]
    refine List.map_congr_left (fun j hj => ?_)
    have := List.mem_range.mp hj
    rw [vu_n (by omega)]
theorem Inv.q47 (hI : Inv n k w x y M) : ∀ c, c ≤ 12 → nN M 47 c ≤ 200 := fun c hc => by have := hI.p.len hc; rw [pl_len] at this; have := hI.a.1; omega
def tkF (f : Nat) : Bool := match f with | 19 => true | 21 => true | 22 => true | 23 => true | 24 => true | 25 => true | 46 => true | 47 => true | 50 => true | 51 => true | 52 => true | 53 => true | _ => false
def lgE (M M' : MS) (t ev : Nat) : Prop := nN M' 50 = va_up (nN M 50) (nN M 53 0) (nN M 0 0) ∧ nN M' 51 = va_up (nN M 51) (nN M 53 0) t ∧ nN M' 52 = va_up (nN M 52) (nN M 53 0) ev ∧ nN M' 53 0 = nN M 53 0 + 1
def TkE (M M' : MS) (c b : Nat) : Prop :=
  (nN M' 19 = va_up (nN M 19) b 2 ∧ nN M' 21 = va_up (nN M 21) b (nN M 21 b + 1) ∧ nN M' 22 = va_up (nN M 22) b (nN M 0 0) ∧ nN M' 23 = va_up (nN M 23) b (nN M 0 0 + (if nN M 2 b = 11 then nN M 18 b / 2 else nN M 18 b)) ∧ nN M' 24 = va_up (nN M 24) b (if nN M 2 b = 11 then 1 else 0) ∧ nN M' 25 = va_up (nN M 25) b c) ∧
  lgE M M' b 1 ∧ (∀ c', c' ≤ 12 → plM M' c' = if c' = c then plM M c ++ [b] else plM M c') ∧ NT exM M' ∧ ∀ f, tkF f = false → M' f = M f
theorem tk_E {c b : Nat} (hI : Inv n k w 0 y M) (hy : y ≤ 1) (hck : c ≤ k) (h1b : 1 ≤ b) (hb : b ≤ n) (h9 : 9 ≤ nN M 2 b) : TkE M (tkA M c b) c b := by
  have bd := hI.bd (by decide) hy
  have hn := hI.a.1
  have hk := hI.a.2.2.1
  have h18 := (hI.s.2 b h1b hb).2.2.2.2.2.1 h9
  have hw : nN M 0 0 = w ∧ w ≤ 10000 := ⟨hI.a.2.2.2.2.2.2, hI.a.2.2.2.1⟩
  have hd := hI.d b h1b hb
  have hs := (hI.s.2 b h1b hb).2.2.2.2.2.2.1
  have h21 : nN M 21 b + 1 < 2 ^ 31 := by have := hd.2.1; have := hd.2.2.2.1; omega
  have hq := hI.q47 c (by omega)
  have e21 : M 21 b + nI 1 = nI (nN M 21 b + 1) := by rw [hI.nt 21 b rfl, nI_add]
  have e24 : (if M 2 b = nI 11 then nI 1 else nI 0) = nI (if nN M 2 b = 11 then 1 else 0) := by
    by_cases h : nN M 2 b = 11
    · rw [if_pos ((hI.nt.eq rfl (by decide)).mpr h), if_pos h]
    · rw [if_neg (fun q => h ((hI.nt.eq rfl (by decide)).mp q)), if_neg h]
  have e23 : M 0 0 + (if M 2 b = nI 11 then M 18 b / nI 2 else M 18 b) = nI (nN M 0 0 + (if nN M 2 b = 11 then nN M 18 b / 2 else nN M 18 b)) := by
    by_cases h : nN M 2 b = 11
    · rw [if_pos ((hI.nt.eq rfl (by decide)).mpr h), if_pos h, hI.nt 0 0 rfl, hI.nt 18 b rfl, pk_div (nN_lt M 18 b) (by decide) (by decide), nI_add]
    · rw [if_neg (fun q => h ((hI.nt.eq rfl (by decide)).mp q)), if_neg h, hI.nt 0 0 rfl, hI.nt 18 b rfl, nI_add]
  have b23 : nN M 0 0 + (if nN M 2 b = 11 then nN M 18 b / 2 else nN M 18 b) < 2 ^ 31 := by split <;> omega
  have b24 : (if nN M 2 b = 11 then 1 else 0) < 2 ^ 31 := by split <;> decide
  unfold tkA
  rw [e21, e24, e23]
  generalize hM1 : up2 (up2 (up2 (up2 (up2 (up2 (up2 (up2 M 46 (201 * c + nN M 47 c) (nI b)) 47 c (nI (nN M 47 c + 1))) 19 b (nI 2)) 25 b (nI c)) 21 b (nI (nN M 21 b + 1))) 22 b (M 0 0)) 24 b (nI (if nN M 2 b = 11 then 1 else 0))) 23 b (nI (nN M 0 0 + (if nN M 2 b = 11 then nN M 18 b / 2 else nN M 18 b))) = M1
  have N1 : NT exM M1 := by
    rw [← hM1]
    exact (((((((hI.nt.upn (by omega)).upn (by omega)).upn (by decide)).upn (by omega)).upn h21).up (fun _ => hI.nt 0 0 rfl)).upn b24).upn b23
  have o1 : ∀ f, tkF f = false → M1 f = M f := fun f hf => by
    rw [← hM1, up2_f (fne hf rfl), up2_f (fne hf rfl), up2_f (fne hf rfl), up2_f (fne hf rfl), up2_f (fne hf rfl), up2_f (fne hf rfl), up2_f (fne hf rfl), up2_f (fne hf rfl)]
  have o5 : ∀ f, noF f = true → M1 f = M f := fun f hf => by
    have hne : ∀ c, noF c = false → f ≠ c := fun c hc q => by rw [q, hc] at hf; cases hf
    rw [← hM1, up2_f (hne 23 rfl), up2_f (hne 24 rfl), up2_f (hne 22 rfl), up2_f (hne 21 rfl), up2_f (hne 25 rfl), up2_f (hne 19 rfl), up2_f (hne 47 rfl), up2_f (hne 46 rfl)]
  obtain ⟨a, bb, cc⟩ := note_nn (g := nN M 53 0) (t := b) (ev := 1) N1 (by omega) (by omega) (by decide)
  rw [nN_e (o5 50 rfl), nN_e (o5 51 rfl), nN_e (o5 52 rfl), nN_e (o1 0 rfl)] at a
  refine ⟨⟨?_, ?_, ?_, ?_, ?_, ?_⟩, a, ?_, bb, fun f hf => ?_⟩
  · rw [nN_e (cc 19 rfl), ← hM1, nN_f (by decide), nN_f (by decide), nN_f (by decide), nN_f (by decide), nN_f (by decide), nN_sn (by decide), nN_f (by decide), nN_f (by decide)]
  · rw [nN_e (cc 21 rfl), ← hM1, nN_f (by decide), nN_f (by decide), nN_f (by decide), nN_sn h21, nN_f (by decide), nN_f (by decide), nN_f (by decide), nN_f (by decide)]
  · rw [nN_e (cc 22 rfl), ← hM1, nN_f (by decide), nN_f (by decide), nN_s, nN_f (by decide), nN_f (by decide), nN_f (by decide), nN_f (by decide), nN_f (by decide)]; rfl
  · rw [nN_e (cc 23 rfl), ← hM1, nN_sn b23, nN_f (by decide), nN_f (by decide), nN_f (by decide), nN_f (by decide), nN_f (by decide), nN_f (by decide), nN_f (by decide)]
  · rw [nN_e (cc 24 rfl), ← hM1, nN_f (by decide), nN_sn b24, nN_f (by decide), nN_f (by decide), nN_f (by decide), nN_f (by decide), nN_f (by decide), nN_f (by decide)]
  · rw [nN_e (cc 25 rfl), ← hM1, nN_f (by decide), nN_f (by decide), nN_f (by decide), nN_f (by decide), nN_sn (by omega), nN_f (by decide), nN_f (by decide), nN_f (by decide)]
  · refine pl_add hI.q47 (by omega) ?_ ?_
    · rw [nN_e (cc 46 rfl), ← hM1, nN_f (by decide), nN_f (by decide), nN_f (by decide), nN_f (by decide), nN_f (by decide), nN_f (by decide), nN_f (by decide), nN_sn (by omega)]
    · rw [nN_e (cc 47 rfl), ← hM1, nN_f (by decide), nN_f (by decide), nN_f (by decide), nN_f (by decide), nN_f (by decide), nN_f (by decide), nN_sn (by omega), nN_f (by decide)]
  · rw [cc f (by cases hq2 : noF f; rfl; exact absurd hf (by unfold noF at hq2; split at hq2 <;> first | (intro; contradiction) | contradiction)), o1 f hf]
theorem tk_inv {c b : Nat} (hI : Inv n k w 0 y M) (h1c : 1 ≤ c) (hck : c ≤ k) (h1b : 1 ≤ b) (hb : b ≤ n) (ho : nN M 8 b = 0) (h9 : 9 ≤ nN M 2 b) (hr : nN M 19 b = 1) (E : TkE M M' c b) : Inv n k w 0 y M' := by
  obtain ⟨⟨e19, e21, e22, e23, e24, e25⟩, ⟨e50, e51, e52, e53⟩, epl, hN, ef⟩ := E
  have d := hI.d b h1b hb
  have d2 := (d.2.2.2.2 h9).2 ho
  have d3 := d2.2.1 (by omega)
  have hk := hI.a.2.2.1
  refine hI.chg (v19 := 2) (v21 := nN M 21 b + 1) (v24 := if nN M 2 b = 11 then 1 else 0) (v25 := c) (v27 := nN M 27 b) h1b hb ho hN (fun f hf => ef f ?_) e19 e21 (fun u hu => by rw [e22, vu_n hu]) e24 e25 (by rw [vu_id, nN_e (ef 27 rfl)]) ?_ (Nat.le_refl _) hI.ab ?_ ?_ ?_
  · cases hq : tkF f
    · rfl
    · unfold tkF at hq
      split at hq <;> first | (exact absurd hf (by decide)) | cases hq
  · refine ⟨by decide, d.2.1, fun q => by omega, by omega, fun _ => ⟨by decide, fun _ => ⟨fun _ => ⟨by omega, h1c, Nat.le_trans hck hI.a.2.2.1⟩, fun q => by omega, fun q => by omega, fun q => by omega, fun _ q => ?_, fun q => by omega⟩⟩⟩
    by_cases h : nN M 2 b = 11
    · exact h
    · rw [if_neg h] at q; omega
  · rw [vu_id, nN_e (ef 31 rfl)]; exact hI.f.2.2.2
  · rw [e53, hr]
    have : nst (nN M 2 b) 0 1 (nN M 24 b) = 0 := by unfold nst; split <;> rfl
    omega
  · intro c' hc'
    obtain ⟨p1, p2, p3⟩ := hI.p c' hc'
    have hnm : b ∉ plM M c' := fun hm => by have := (p3 b hm).2.2.2.2.1; omega
    rw [epl c' hc']
    by_cases h : c' = c
    · subst h
      rw [if_pos rfl]
      refine ⟨?_, fun q => by omega, fun u hu => ?_⟩
      · rw [List.nodup_append]
        refine ⟨p1, by simp, fun a ha b' hb' => ?_⟩
        rw [List.mem_singleton] at hb'
        rw [hb']; exact fun q => hnm (q ▸ ha)
      · rw [List.mem_append, List.mem_singleton] at hu
        rcases hu with hu | rfl
        · have hne : u ≠ b := fun q => hnm (q ▸ hu)
          rw [vu_n hne, vu_n hne]; exact p3 u hu
        · rw [vu_s, vu_s]; exact ⟨h1b, hb, h9, ho, Or.inl rfl, rfl⟩
    · rw [if_neg h]
      refine ⟨p1, p2, fun u hu => ?_⟩
      have hne : u ≠ b := fun q => hnm (q ▸ hu)
      rw [vu_n hne, vu_n hne]; exact p3 u hu
end TAKS
