/-! a new stage, the two makings -/
section MKNS
variable {n k F w x y d wn : Nat} {K K1 K' : MS} {L L' : KL} {M M1 M' : MS} {t h c b : Nat} {so kd v7 v18 v19 v20 v29 v30 v32 : Nat} {am : Int32} {ls : List Nat}
theorem vu2 {α : Type} {f : Nat → α} {i : Nat} {a b : α} : va_up (va_up f i a) i b = va_up f i b := by
  funext j
  by_cases h : j = i
  · subst h; rw [vu_s, vu_s]
  · rw [vu_n h, vu_n h, vu_n h]
theorem MkE.nw (E : MkE n M M' so kd am ls) : NwM n M M' so kd (nN M 7 (n + 1)) (nN M 18 (n + 1)) (nN M 19 (n + 1)) (nN M 20 (n + 1)) (nN M 29 (n + 1)) (nN M 30 (n + 1)) (nN M 32 (n + 1)) am ls := by
  obtain ⟨E0, E1, E2, E5, E6, E4, E3, E3b, Ef⟩ := E
  exact ⟨⟨E0, E1, E2, E4, E5, E6⟩, ⟨by rw [nN_e (Ef 7 rfl), vu_id], by rw [nN_e (Ef 18 rfl), vu_id], by rw [nN_e (Ef 19 rfl), vu_id], by rw [nN_e (Ef 20 rfl), vu_id], by rw [nN_e (Ef 29 rfl), vu_id], by rw [nN_e (Ef 30 rfl), vu_id], by rw [nN_e (Ef 32 rfl), vu_id]⟩, E3, E3b, fun f hf => Ef f (by cases q : mkF6 f; rfl; unfold mkF6 at q; split at q <;> first | cases hf | cases q)⟩
theorem NwM.u7 (E : NwM n M M' so kd v7 v18 v19 v20 v29 v30 v32 am ls) {v : Nat} (hv : v < 2 ^ 31) : NwM n M (up2 M' 7 (n + 1) (nI v)) so kd v v18 v19 v20 v29 v30 v32 am ls := by
  obtain ⟨⟨E0, E1, E2, E4, E5, E6⟩, ⟨E7, E18, E19, E20, E29, E30, E32⟩, E3a, E3b, Eo⟩ := E
  exact ⟨⟨E0.upn hv, by rw [nN_f (by decide)]; exact E1, by rw [nN_f (by decide)]; exact E2, by rw [nN_f (by decide)]; exact E4, by rw [nN_f (by decide)]; exact E5, by rw [up2_f (by decide)]; exact E6⟩, ⟨by rw [nN_sn hv, E7, vu2], by rw [nN_f (by decide)]; exact E18, by rw [nN_f (by decide)]; exact E19, by rw [nN_f (by decide)]; exact E20, by rw [nN_f (by decide)]; exact E29, by rw [nN_f (by decide)]; exact E30, by rw [nN_f (by decide)]; exact E32⟩, fun j hj => by rw [nN_f (by decide)]; exact E3a j hj, fun i hi => by rw [nN_f (by decide)]; exact E3b i hi, fun f hf => by rw [up2_f (fne hf rfl)]; exact Eo f hf⟩
theorem NwM.u18 (E : NwM n M M' so kd v7 v18 v19 v20 v29 v30 v32 am ls) {v : Nat} (hv : v < 2 ^ 31) : NwM n M (up2 M' 18 (n + 1) (nI v)) so kd v7 v v19 v20 v29 v30 v32 am ls := by
  obtain ⟨⟨E0, E1, E2, E4, E5, E6⟩, ⟨E7, E18, E19, E20, E29, E30, E32⟩, E3a, E3b, Eo⟩ := E
  exact ⟨⟨E0.upn hv, by rw [nN_f (by decide)]; exact E1, by rw [nN_f (by decide)]; exact E2, by rw [nN_f (by decide)]; exact E4, by rw [nN_f (by decide)]; exact E5, by rw [up2_f (by decide)]; exact E6⟩, ⟨by rw [nN_f (by decide)]; exact E7, by rw [nN_sn hv, E18, vu2], by rw [nN_f (by decide)]; exact E19, by rw [nN_f (by decide)]; exact E20, by rw [nN_f (by decide)]; exact E29, by rw [nN_f (by decide)]; exact E30, by rw [nN_f (by decide)]; exact E32⟩, fun j hj => by rw [nN_f (by decide)]; exact E3a j hj, fun i hi => by rw [nN_f (by decide)]; exact E3b i hi, fun f hf => by rw [up2_f (fne hf rfl)]; exact Eo f hf⟩
theorem NwM.u19 (E : NwM n M M' so kd v7 v18 v19 v20 v29 v30 v32 am ls) {v : Nat} (hv : v < 2 ^ 31) : NwM n M (up2 M' 19 (n + 1) (nI v)) so kd v7 v18 v v20 v29 v30 v32 am ls := by
  obtain ⟨⟨E0, E1, E2, E4, E5, E6⟩, ⟨E7, E18, E19, E20, E29, E30, E32⟩, E3a, E3b, Eo⟩ := E
  exact ⟨⟨E0.upn hv, by rw [nN_f (by decide)]; exact E1, by rw [nN_f (by decide)]; exact E2, by rw [nN_f (by decide)]; exact E4, by rw [nN_f (by decide)]; exact E5, by rw [up2_f (by decide)]; exact E6⟩, ⟨by rw [nN_f (by decide)]; exact E7, by rw [nN_f (by decide)]; exact E18, by rw [nN_sn hv, E19, vu2], by rw [nN_f (by decide)]; exact E20, by rw [nN_f (by decide)]; exact E29, by rw [nN_f (by decide)]; exact E30, by rw [nN_f (by decide)]; exact E32⟩, fun j hj => by rw [nN_f (by decide)]; exact E3a j hj, fun i hi => by rw [nN_f (by decide)]; exact E3b i hi, fun f hf => by rw [up2_f (fne hf rfl)]; exact Eo f hf⟩
theorem NwM.u20 (E : NwM n M M' so kd v7 v18 v19 v20 v29 v30 v32 am ls) {v : Nat} (hv : v < 2 ^ 31) : NwM n M (up2 M' 20 (n + 1) (nI v)) so kd v7 v18 v19 v v29 v30 v32 am ls := by
  obtain ⟨⟨E0, E1, E2, E4, E5, E6⟩, ⟨E7, E18, E19, E20, E29, E30, E32⟩, E3a, E3b, Eo⟩ := E
  exact ⟨⟨E0.upn hv, by rw [nN_f (by decide)]; exact E1, by rw [nN_f (by decide)]; exact E2, by rw [nN_f (by decide)]; exact E4, by rw [nN_f (by decide)]; exact E5, by rw [up2_f (by decide)]; exact E6⟩, ⟨by rw [nN_f (by decide)]; exact E7, by rw [nN_f (by decide)]; exact E18, by rw [nN_f (by decide)]; exact E19, by rw [nN_sn hv, E20, vu2], by rw [nN_f (by decide)]; exact E29, by rw [nN_f (by decide)]; exact E30, by rw [nN_f (by decide)]; exact E32⟩, fun j hj => by rw [nN_f (by decide)]; exact E3a j hj, fun i hi => by rw [nN_f (by decide)]; exact E3b i hi, fun f hf => by rw [up2_f (fne hf rfl)]; exact Eo f hf⟩
theorem NwM.u29 (E : NwM n M M' so kd v7 v18 v19 v20 v29 v30 v32 am ls) {v : Nat} (hv : v < 2 ^ 31) : NwM n M (up2 M' 29 (n + 1) (nI v)) so kd v7 v18 v19 v20 v v30 v32 am ls := by
  obtain ⟨⟨E0, E1, E2, E4, E5, E6⟩, ⟨E7, E18, E19, E20, E29, E30, E32⟩, E3a, E3b, Eo⟩ := E
  exact ⟨⟨E0.upn hv, by rw [nN_f (by decide)]; exact E1, by rw [nN_f (by decide)]; exact E2, by rw [nN_f (by decide)]; exact E4, by rw [nN_f (by decide)]; exact E5, by rw [up2_f (by decide)]; exact E6⟩, ⟨by rw [nN_f (by decide)]; exact E7, by rw [nN_f (by decide)]; exact E18, by rw [nN_f (by decide)]; exact E19, by rw [nN_f (by decide)]; exact E20, by rw [nN_sn hv, E29, vu2], by rw [nN_f (by decide)]; exact E30, by rw [nN_f (by decide)]; exact E32⟩, fun j hj => by rw [nN_f (by decide)]; exact E3a j hj, fun i hi => by rw [nN_f (by decide)]; exact E3b i hi, fun f hf => by rw [up2_f (fne hf rfl)]; exact Eo f hf⟩
theorem NwM.u30 (E : NwM n M M' so kd v7 v18 v19 v20 v29 v30 v32 am ls) {v : Nat} (hv : v < 2 ^ 31) : NwM n M (up2 M' 30 (n + 1) (nI v)) so kd v7 v18 v19 v20 v29 v v32 am ls := by
  obtain ⟨⟨E0, E1, E2, E4, E5, E6⟩, ⟨E7, E18, E19, E20, E29, E30, E32⟩, E3a, E3b, Eo⟩ := E
  exact ⟨⟨E0.upn hv, by rw [nN_f (by decide)]; exact E1, by rw [nN_f (by decide)]; exact E2, by rw [nN_f (by decide)]; exact E4, by rw [nN_f (by decide)]; exact E5, by rw [up2_f (by decide)]; exact E6⟩, ⟨by rw [nN_f (by decide)]; exact E7, by rw [nN_f (by decide)]; exact E18, by rw [nN_f (by decide)]; exact E19, by rw [nN_f (by decide)]; exact E20, by rw [nN_f (by decide)]; exact E29, by rw [nN_sn hv, E30, vu2], by rw [nN_f (by decide)]; exact E32⟩, fun j hj => by rw [nN_f (by decide)]; exact E3a j hj, fun i hi => by rw [nN_f (by decide)]; exact E3b i hi, fun f hf => by rw [up2_f (fne hf rfl)]; exact Eo f hf⟩
theorem NwM.u32 (E : NwM n M M' so kd v7 v18 v19 v20 v29 v30 v32 am ls) {v : Nat} (hv : v < 2 ^ 31) : NwM n M (up2 M' 32 (n + 1) (nI v)) so kd v7 v18 v19 v20 v29 v30 v am ls := by
  obtain ⟨⟨E0, E1, E2, E4, E5, E6⟩, ⟨E7, E18, E19, E20, E29, E30, E32⟩, E3a, E3b, Eo⟩ := E
  exact ⟨⟨E0.upn hv, by rw [nN_f (by decide)]; exact E1, by rw [nN_f (by decide)]; exact E2, by rw [nN_f (by decide)]; exact E4, by rw [nN_f (by decide)]; exact E5, by rw [up2_f (by decide)]; exact E6⟩, ⟨by rw [nN_f (by decide)]; exact E7, by rw [nN_f (by decide)]; exact E18, by rw [nN_f (by decide)]; exact E19, by rw [nN_f (by decide)]; exact E20, by rw [nN_f (by decide)]; exact E29, by rw [nN_f (by decide)]; exact E30, by rw [nN_sn hv, E32, vu2]⟩, fun j hj => by rw [nN_f (by decide)]; exact E3a j hj, fun i hi => by rw [nN_f (by decide)]; exact E3b i hi, fun f hf => by rw [up2_f (fne hf rfl)]; exact Eo f hf⟩
theorem NwM.tk {u : Nat} (E : NwM n M M' so kd v7 v18 v19 v20 v29 v30 v32 am ls) (hu : u < 2 ^ 31) (hl : ls.length < 24) : NwM n M (takM M' (n + 1) (nI u)) so kd v7 v18 v19 v20 v29 v30 v32 am (if u ∈ ls then ls else ls ++ [u]) := by
  have hin := E.in
  have hp := inp_iff (t := n + 1) E.1.1 hu
  rw [hin] at hp
  unfold takM
  by_cases h : u ∈ ls
  · rw [if_pos (hp.mpr h), if_pos h]; exact E
  · rw [if_neg (fun q => h (hp.mp q)), if_neg h]
    have e4 : kI M' (n + 1) = ls.length := by show nN M' 4 (n + 1) = _; rw [E.1.2.2.2.1, vu_s]
    rw [e4]
    obtain ⟨⟨E0, E1, E2, E4, E5, E6⟩, ⟨E7, E18, E19, E20, E29, E30, E32⟩, E3, E3b, Ef⟩ := E
    have hl2 : (ls ++ [u]).length = ls.length + 1 := by simp
    have e : ∀ f, f ≠ 3 → f ≠ 4 → nN (up2 (up2 M' 3 (24 * (n + 1) + ls.length) (nI u)) 4 (n + 1) (nI (ls.length + 1))) f = nN M' f := fun f h3 h4 => by rw [nN_f h4, nN_f h3]
    refine ⟨⟨(E0.upn hu).upn (by omega), by rw [e 1 (by decide) (by decide)]; exact E1, by rw [e 2 (by decide) (by decide)]; exact E2, ?_, by rw [e 5 (by decide) (by decide)]; exact E5, by rw [up2_f (by decide), up2_f (by decide)]; exact E6⟩, ⟨by rw [e 7 (by decide) (by decide)]; exact E7, by rw [e 18 (by decide) (by decide)]; exact E18, by rw [e 19 (by decide) (by decide)]; exact E19, by rw [e 20 (by decide) (by decide)]; exact E20, by rw [e 29 (by decide) (by decide)]; exact E29, by rw [e 30 (by decide) (by decide)]; exact E30, by rw [e 32 (by decide) (by decide)]; exact E32⟩, fun j hj => ?_, fun i hi => ?_, fun f hf => ?_⟩
    · rw [nN_sn (by omega), nN_f (by decide), E4, hl2, vu2]
    · rw [nN_f (by decide), nN_sn hu]
      by_cases hj2 : j = ls.length
      · subst hj2; rw [vu_s]; simp
      · rw [hl2] at hj
        rw [vu_n (by omega), E3 j (by omega), List.getElem?_append_left (by omega)]
    · rw [nN_f (by decide), nN_sn hu, vu_n (by omega)]; exact E3b i hi
    · rw [up2_f (fne hf rfl), up2_f (fne hf rfl)]; exact Ef f hf
/-- the reference's invariant, with the new stage -/
theorem NwM.inv (hI : Inv n k w 0 0 M) (hn : n + 1 ≤ 200) (E : NwM n M M' so kd v7 v18 v19 v20 v29 v30 v32 am ls) (hso : so ≤ 12) (hlen : ls.length ≤ 24) (hshp : shp so ls.length) (hls : ∀ u ∈ ls, 1 ≤ u ∧ u ≤ n) (hnd : ls.Nodup) (hkd : kd ≤ 15 ∧ (so ≤ 2 ∨ 9 ≤ so → kd ≤ 4)) (h7 : v7 ≤ 200 ∧ (so = 5 → 1 ≤ v7 ∧ v7 ≤ ls.length) ∧ (so = 6 ∨ so = 7 → v7 = ls[ls.length - 1]?.getD 0)) (h18 : 9 ≤ so → 1 ≤ v18 ∧ v18 ≤ 60) (h29 : v29 ≤ 5 ∧ (so ≠ 10 → v29 = 0)) (h30 : v30 ≤ 30) (h19 : 9 ≤ so → v19 ≤ 1 ∧ (v19 = 0 → so = 12)) : Inv (n + 1) k w 0 0 M' := by
  obtain ⟨⟨E0, E1, E2, E4, E5, E6⟩, ⟨E7, E18, E19, E20, E29, E30, E32⟩, E3a, E3b, Eo⟩ := E
  exact hI.new hn E0 Eo E1 E2 E4 E5 E7 E18 E19 E29 E30 E3a E3b hso hlen hshp hls hnd hkd h7 h18 h29 h30 h19
/-! the class's new stage -/
def SgN (σ : Nat → Int32) : Prop := ∀ j, j ≠ 4 → j ≠ 7 → j ≠ 11 → σ j = nI (σ j).toNatClampNeg
theorem SgN.z : SgN (fun _ => 0) := fun j _ _ _ => by show (0 : Int32) = nI (0 : Int32).toNatClampNeg; decide +kernel
theorem SgN.up {σ : Nat → Int32} (h : SgN σ) {i : Nat} {v : Int32} (hv : i = 4 ∨ i = 7 ∨ i = 11 ∨ v = nI v.toNatClampNeg) : SgN (upd σ i v) := fun j h1 h2 h3 => by
  rw [updI]
  by_cases c : j = i
  · rw [if_pos c]; rcases hv with q | q | q | q <;> first | exact q | omega
  · rw [if_neg c]; exact h j h1 h2 h3
theorem nI_cl {v : Nat} (hv : v < 2 ^ 31) : nI v = nI (nI v).toNatClampNeg := by rw [nI_clamp hv]
theorem z_cl : (0 : Int32) = nI (0 : Int32).toNatClampNeg := by decide +kernel
theorem sumN_b {f : Nat → Nat} (h : ∀ j, f j ≤ 1) : ∀ m, sumN f m ≤ m
  | 0 => Nat.le_refl _
  | m + 1 => by rw [sumN]; have := sumN_b h m; have := h m; omega
theorem srvN_le (hI : Inv n k w x y M) {u : Nat} (hu : u ≤ n) : srvN M u ≤ 200 := by
  have a1 := hI.a.1
  rw [srvN_S hI.nt (by omega) hI.a.2.2.2.2.1]
  have := sumN_b (f := fun j => srvT M u (u + 1 + j)) (fun j => by unfold srvT; split <;> omega) (n - u)
  omega
theorem nwk_kep {σ : Nat → Int32} {tm form kind mi pz : Nat} (hR : Rel n k F K L M) (hI : Inv n k w 0 0 M) (hn : n + 1 ≤ 200) (hls : ∀ u ∈ ls, 1 ≤ u ∧ u ≤ n) (hnd : ls.Nodup) (hlen : ls.length ≤ 24) (htm : tm ≤ 5) (hσ : SgN σ) (s0 : σ 0 = nI (n + 1)) (s1 : σ 1 = nI form) (b1 : form < 2 ^ 31) (s3 : σ 3 = nI kind) (b3 : kind < 2 ^ 31) (s6 : σ 6 = nI 0) (s7 : σ 7 = 0) (s9 : σ 9 = nI 0) (s10 : σ 10 = nI 0) (s11 : σ 11 = -1) (s12 : σ 12 = nI 0) (s13 : σ 13 = nI mi) (b13 : mi < 2 ^ 31) (s14 : σ 14 = nI 0) (s16 : σ 16 = nI 0) (s17 : σ 17 = nI 0) (s19 : σ 19 = nI 0) (s20 : σ 20 = nI 0) (s22 : σ 22 = nI 0) (s23 : σ 23 = nI pz) (b23 : pz < 2 ^ 31) : NwK n K (kepK (stgK K (n + 1) σ ls.length (elN ls) tm) (n + 1)) 0 0 form kind mi pz tm (σ 4) ls [] ∧ Fx K (kepK (stgK K (n + 1) σ ls.length (elN ls) tm) (n + 1)) := by
  generalize hK2 : stgK K (n + 1) σ ls.length (elN ls) tm = K2
  have o2 : ∀ f j, f ≠ 1000 + (n + 1) → f ≠ 2000 + (n + 1) → f ≠ 3000 + (n + 1) → ¬ (j = n + 1 ∧ 10 ≤ f ∧ f < 36) → K2 f j = K f j := fun f j h1 h2 h3 h4 => by rw [← hK2]; exact stg_o h1 h2 h3 h4
  have t2 : ∀ f, 10 ≤ f → f < 36 → K2 f (n + 1) = if f = 12 then nI ls.length else if f = 18 ∨ f = 31 then 0 else if f = 34 ∨ f = 35 then nI tm else σ (f - 10) := fun f h1 h2 => by rw [← hK2]; exact stg_s (by omega) h1 h2
  have el : ∀ j, ls[j]?.getD 0 ≤ 200 := fun j => by
    by_cases hj : j < ls.length
    · rw [List.getElem?_eq_getElem hj, Option.getD_some]; have := hls _ (List.getElem_mem hj); omega
    · rw [List.getElem?_eq_none (by omega), Option.getD_none]; omega
  have r2 : ∀ j, K2 (1000 + (n + 1)) j = nI (ls[j]?.getD 0) := fun j => by rw [← hK2]; exact stg_r
  have z2 : ∀ f j, f = 2000 + (n + 1) ∨ f = 3000 + (n + 1) → K2 f j = 0 := fun f j h => by rw [← hK2]; exact stg_z h
  have N2 : NT exK K2 := fun f j hf => by
    unfold nN
    by_cases c1 : f = 1000 + (n + 1)
    · subst c1; rw [r2]; exact nI_cl (by have := el j; omega)
    · by_cases c2 : f = 2000 + (n + 1) ∨ f = 3000 + (n + 1)
      · rw [z2 f j c2]; exact z_cl
      · by_cases c3 : j = n + 1 ∧ 10 ≤ f ∧ f < 36
        · obtain ⟨rfl, c4, c5⟩ := c3
          rw [t2 f c4 c5]
          split
          · exact nI_cl (by omega)
          · split
            · exact z_cl
            · split
              · exact nI_cl (by omega)
              · refine hσ (f - 10) (fun q => ?_) (fun q => ?_) (fun q => ?_)
                · have : f = 14 := by omega
                  subst this; cases hf
                · have : f = 17 := by omega
                  subst this; cases hf
                · have : f = 21 := by omega
                  subst this; cases hf
        · rw [o2 f j c1 (fun q => c2 (Or.inl q)) (fun q => c2 (Or.inr q)) c3]; exact hR.nt f j hf
  have e12 : nN K2 12 (n + 1) = ls.length := by unfold nN; rw [t2 12 (by decide) (by decide), if_pos rfl, nI_clamp (by omega)]
  have eI : ∀ a, iK K2 (n + 1) a = ls[a]?.getD 0 := fun a => by unfold iK nN; rw [r2, nI_clamp (by have := el a; omega)]
  have NA : NT exK (up2 (up2 K2 5 (n + 1 - 1) (nI (n + 1))) 0 0 (nI (n + 1))) := (N2.upn (by omega)).upn (by omega)
  have e22 : ∀ u, nN (up2 (up2 K2 5 (n + 1 - 1) (nI (n + 1))) 0 0 (nI (n + 1))) 22 u = nN K2 22 u := fun u => by rw [nN_f (by decide), nN_f (by decide)]
  have k22 : ∀ u, u ≠ n + 1 → nN K2 22 u = nN K 22 u := fun u hu => by unfold nN; rw [o2 22 u (by omega) (by omega) (by omega) (fun q => hu q.1)]
  have SE := srvU_E (K0 := K2) (n + 1) ls.length 0 _ NA (fun a b h1 h2 h3 => by
    rw [eI, eI, List.getElem?_eq_getElem (by omega), List.getElem?_eq_getElem (by omega), Option.getD_some, Option.getD_some]
    exact List.pairwise_iff_getElem.mp (List.nodup_iff_pairwise_ne.mp hnd) a b (by omega) (by omega) h2) (fun a h1 h2 => by
    rw [e22, eI, List.getElem?_eq_getElem (by omega), Option.getD_some]
    have hb := hls _ (List.getElem_mem (show a < ls.length by omega))
    rw [k22 _ (by omega), (hR.d _ hb.1 hb.2).2.2.2.2.2.2]
    have := srvN_le hI hb.2
    omega)
  have eK3 : kepK K2 (n + 1) = srvU K2 (n + 1) ls.length 0 (up2 (up2 K2 5 (n + 1 - 1) (nI (n + 1))) 0 0 (nI (n + 1))) := by unfold kepK; rw [e12]
  rw [← eK3] at SE
  have o3 : ∀ f j, f ≠ 22 → f ≠ 5 → f ≠ 0 → kepK K2 (n + 1) f j = K2 f j := fun f j h1 h2 h3 => kep_o h1 h2 h3
  have f3 : ∀ f, f ≠ 22 → f ≠ 5 → f ≠ 0 → kepK K2 (n + 1) f = K2 f := fun f h1 h2 h3 => funext (fun j => o3 f j h1 h2 h3)
  have n3 : ∀ f j, f ≠ 22 → f ≠ 5 → f ≠ 0 → nN (kepK K2 (n + 1)) f j = nN K2 f j := fun f j h1 h2 h3 => by unfold nN; rw [o3 f j h1 h2 h3]
  have hmem : ∀ u, (∃ a, 0 ≤ a ∧ a < 0 + ls.length ∧ iK K2 (n + 1) a = u) ↔ u ∈ ls := fun u => by
    constructor
    · rintro ⟨a, -, h2, h3⟩
      rw [eI, List.getElem?_eq_getElem (by omega), Option.getD_some] at h3
      rw [← h3]; exact List.getElem_mem _
    · intro hu
      obtain ⟨a, ha, e⟩ := List.getElem_of_mem hu
      exact ⟨a, Nat.zero_le _, by omega, by rw [eI, List.getElem?_eq_getElem ha, Option.getD_some]; exact e⟩
  have els : ∀ f j, isLs f → kepK K2 (n + 1) f j = K f j := fun f j hf => by
    unfold isLs at hf
    rw [o3 f j (by omega) (by omega) (by omega), o2 f j (by omega) (by omega) (by omega) (by omega)]
  have val : ∀ f, 10 ≤ f → f < 36 → f ≠ 12 → f ≠ 18 → f ≠ 31 → f ≠ 34 → f ≠ 35 → f ≠ 22 → kepK K2 (n + 1) f (n + 1) = σ (f - 10) := fun f h1 h2 h3 h4 h5 h6 h7 h8 => by
    rw [o3 f _ h8 (by omega) (by omega), t2 f h1 h2, if_neg h3, if_neg (by omega), if_neg (by omega)]
  have valn : ∀ f v, 10 ≤ f → f < 36 → f ≠ 12 → f ≠ 18 → f ≠ 31 → f ≠ 34 → f ≠ 35 → f ≠ 22 → v < 2 ^ 31 → σ (f - 10) = nI v → nN (kepK K2 (n + 1)) f (n + 1) = v := fun f v h1 h2 h3 h4 h5 h6 h7 h8 hv hs => by
    unfold nN; rw [val f h1 h2 h3 h4 h5 h6 h7 h8, hs, nI_clamp hv]
  refine ⟨⟨⟨SE.2.2, ?_, ?_, ?_, fun j hj => ?_⟩, ⟨fun f u h1 h2 h3 hu => ?_, fun u hu => ?_, fun u hu => ⟨?_, ?_, ?_⟩⟩, fun f hf => ?_, ⟨fun c h1 h2 => ?_, ?_⟩, ⟨?_, ?_, ?_, fun j hj => ?_, ?_, ?_⟩, ⟨?_, ?_, ?_, ?_, ?_, ?_, ?_⟩, ⟨?_, ?_, ?_, ?_, ?_, ?_, ?_, ?_, ?_, ?_, ?_⟩⟩, fun g j hg => ?_⟩
  · exact fun a ha => by
      have q := (hR.la.cg els) a ha
      exact ⟨LOk_n q.1, q.2⟩
  · unfold nN; rw [kep_0, nI_clamp (by omega)]
  · unfold nN; rw [kep_5, if_pos (by omega), nI_clamp (by omega)]
  · unfold nN; rw [kep_5, if_neg (by omega), o2 5 j (by omega) (by omega) (by omega) (by omega)]
  · rw [o3 f u h3 (by omega) (by omega), o2 f u (by omega) (by omega) (by omega) (fun q => hu q.1)]
  · by_cases c : u ∈ ls
    · rw [if_pos c, SE.1 u ((hmem u).mpr c), e22, k22 u hu]
    · rw [if_neg c, SE.2.1 u (fun q => c ((hmem u).mp q)), e22, k22 u hu]; rfl
  · funext j; rw [o3 _ j (by omega) (by omega) (by omega), o2 _ j (by omega) (by omega) (by omega) (by omega)]
  · funext j; rw [o3 _ j (by omega) (by omega) (by omega), o2 _ j (by omega) (by omega) (by omega) (by omega)]
  · funext j; rw [o3 _ j (by omega) (by omega) (by omega), o2 _ j (by omega) (by omega) (by omega) (by omega)]
  · funext j; rw [o3 f j (by omega) (by omega) (by omega), o2 f j (by omega) (by omega) (by omega) (by omega)]
  · exact lsL_e h2 els
  · rw [List.append_nil]; exact lsL_e (by decide) els
  · exact valn 10 _ (by decide) (by decide) (by decide) (by decide) (by decide) (by decide) (by decide) (by decide) (by omega) s0
  · exact valn 11 _ (by decide) (by decide) (by decide) (by decide) (by decide) (by decide) (by decide) (by decide) b1 s1
  · rw [n3 12 _ (by decide) (by decide) (by decide)]; exact e12
  · unfold nN; rw [o3 _ j (by omega) (by omega) (by omega), r2, nI_clamp (by have := el j; omega)]
  · exact valn 13 _ (by decide) (by decide) (by decide) (by decide) (by decide) (by decide) (by decide) (by decide) b3 s3
  · exact val 14 (by decide) (by decide) (by decide) (by decide) (by decide) (by decide) (by decide) (by decide)
  · exact valn 16 0 (by decide) (by decide) (by decide) (by decide) (by decide) (by decide) (by decide) (by decide) (by decide) s6
  · rw [val 17 (by decide) (by decide) (by decide) (by decide) (by decide) (by decide) (by decide) (by decide)]; exact s7
  · unfold nN; rw [o3 18 _ (by decide) (by decide) (by decide), t2 18 (by decide) (by decide), if_neg (by decide), if_pos (Or.inl rfl)]; decide +kernel
  · exact valn 19 0 (by decide) (by decide) (by decide) (by decide) (by decide) (by decide) (by decide) (by decide) (by decide) s9
  · exact valn 20 0 (by decide) (by decide) (by decide) (by decide) (by decide) (by decide) (by decide) (by decide) (by decide) s10
  · rw [val 21 (by decide) (by decide) (by decide) (by decide) (by decide) (by decide) (by decide) (by decide)]; exact s11
  · rw [SE.2.1 (n + 1) (fun q => by have := hls _ ((hmem _).mp q); omega), e22]
    unfold nN
    rw [t2 22 (by decide) (by decide), if_neg (by decide), if_neg (by decide), if_neg (by decide), s12]; decide +kernel
  · exact valn 23 _ (by decide) (by decide) (by decide) (by decide) (by decide) (by decide) (by decide) (by decide) b13 s13
  · exact valn 24 0 (by decide) (by decide) (by decide) (by decide) (by decide) (by decide) (by decide) (by decide) (by decide) s14
  · exact valn 26 0 (by decide) (by decide) (by decide) (by decide) (by decide) (by decide) (by decide) (by decide) (by decide) s16
  · exact valn 27 0 (by decide) (by decide) (by decide) (by decide) (by decide) (by decide) (by decide) (by decide) (by decide) s17
  · exact valn 29 0 (by decide) (by decide) (by decide) (by decide) (by decide) (by decide) (by decide) (by decide) (by decide) s19
  · exact valn 30 0 (by decide) (by decide) (by decide) (by decide) (by decide) (by decide) (by decide) (by decide) (by decide) s20
  · unfold nN; rw [o3 31 _ (by decide) (by decide) (by decide), t2 31 (by decide) (by decide), if_neg (by decide), if_pos (Or.inr rfl)]; decide +kernel
  · exact valn 32 0 (by decide) (by decide) (by decide) (by decide) (by decide) (by decide) (by decide) (by decide) (by decide) s22
  · exact valn 33 _ (by decide) (by decide) (by decide) (by decide) (by decide) (by decide) (by decide) (by decide) b23 s23
  · unfold nN; rw [o3 34 _ (by decide) (by decide) (by decide), t2 34 (by decide) (by decide), if_neg (by decide), if_neg (by decide), if_pos (Or.inl rfl), nI_clamp (by omega)]
  · unfold nN; rw [o3 35 _ (by decide) (by decide) (by decide), t2 35 (by decide) (by decide), if_neg (by decide), if_neg (by decide), if_pos (Or.inr rfl), nI_clamp (by omega)]
  · rw [o3 g j (by omega) (by omega) (by omega), o2 g j (by omega) (by omega) (by omega) (by omega)]
/-- made ready -/
theorem NwK.rdy {v24 form kind mi pz tm : Nat} {am : Int32} (hR : Rel n k F K L M) (hI : Inv n k w x y M) (hn : n + 1 ≤ 200) (C : NwK n K K' 0 v24 form kind mi pz tm am ls []) : NwK n K (rdyK K' (n + 1)) 1 (nN K 2 0) form kind mi pz tm am ls [n + 1] := by
  obtain ⟨⟨C0, C1, C2, C3, C4⟩, ⟨C5, C6, C7⟩, C8, ⟨C9, C10⟩, ⟨D10, D11, D12, D1000, D13, D14⟩, ⟨D16, D17, D18, D19, D20, D21, D22⟩, D23, D24, D26, D27, D29, D30, D31, D32, D33, D34, D35⟩ := C
  rw [List.append_nil] at C10
  have m0 : ∀ u ∈ lsL K 0, 1 ≤ u ∧ u ≤ n := (hR.la 0 (by decide)).1.2.2.2.2.1
  have hni : n + 1 ∉ lsL K' 0 := by rw [C10]; exact fun q => by have := m0 _ q; omega
  have hl : (lsL K' 0).length ≤ 200 := by rw [C10]; have := nd_len (hR.la 0 (by decide)).2.1 m0; omega
  have elA : ∀ f j, isLs f → rdyA K' (n + 1) f j = K' f j := fun f j hf => by
    unfold isLs at hf; unfold rdyA; rw [up2_f (by omega), up2_f (by omega)]
  have eA : ∀ a, a ≤ 13 → lsL (rdyA K' (n + 1)) a = lsL K' a := fun a ha => lsL_e ha elA
  have LAA : LA (rdyA K' (n + 1)) (n + 1) := C1.cg elA
  have k2 : K' 2 0 = nI (nN K 2 0) := by rw [C8 2 (by omega), ← hR.nt 2 0 rfl]
  have NA : NT exK (rdyA K' (n + 1)) := by unfold rdyA; rw [k2]; exact (C0.upn (by decide)).upn (nN_lt _ _ _)
  have o : ∀ f, f ≠ 16 → f ≠ 24 → (f < 63 ∨ (67 < f ∧ f < 4000) ∨ 10000 ≤ f) → rdyK K' (n + 1) f = K' f := fun f h1 h2 h3 => rdy_f h1 h2 h3
  have on : ∀ f, f ≠ 16 → f ≠ 24 → (f < 63 ∨ (67 < f ∧ f < 4000) ∨ 10000 ≤ f) → nN (rdyK K' (n + 1)) f = nN K' f := fun f h1 h2 h3 => nN_e (o f h1 h2 h3)
  have e16 : rdyK K' (n + 1) 16 = va_up (K' 16) (n + 1) (nI 1) := by
    rw [show rdyK K' (n + 1) 16 = rdyA K' (n + 1) 16 from ls_fe (by decide) (by omega) (add_e 0 (n + 1))]
    unfold rdyA; rw [up2_f (by decide), up2_va]
  have e24 : rdyK K' (n + 1) 24 = va_up (K' 24) (n + 1) (nI (nN K 2 0)) := by
    rw [show rdyK K' (n + 1) 24 = rdyA K' (n + 1) 24 from ls_fe (by decide) (by omega) (add_e 0 (n + 1))]
    unfold rdyA; rw [up2_va, k2, up2_f (by decide)]
  refine ⟨⟨NA.ls (by decide) (add_e 0 (n + 1)), LAA.add (by omega) (by decide) ⟨by omega, Nat.le_refl _⟩ (by rw [eA 0 (by decide)]; exact hni) (by rw [eA 0 (by decide)]; exact hl), ?_, ?_, fun j hj => ?_⟩, ⟨fun f u h1 h2 h3 hu => ?_, fun u hu => ?_, fun u hu => ⟨?_, ?_, ?_⟩⟩, fun f hf => ?_, ⟨fun c h1 h2 => ?_, ?_⟩, ⟨?_, ?_, ?_, fun j hj => ?_, ?_, ?_⟩, ⟨?_, ?_, ?_, ?_, ?_, ?_, ?_⟩, ⟨?_, ?_, ?_, ?_, ?_, ?_, ?_, ?_, ?_, ?_, ?_⟩⟩
  · rw [on 0 (by decide) (by decide) (by omega)]; exact C2
  · rw [on 5 (by decide) (by decide) (by omega)]; exact C3
  · rw [on 5 (by decide) (by decide) (by omega)]; exact C4 j hj
  · by_cases c6 : f = 16
    · subst c6; rw [e16, vu_n hu]; exact C5 16 u h1 h2 h3 hu
    · by_cases c4 : f = 24
      · subst c4; rw [e24, vu_n hu]; exact C5 24 u h1 h2 h3 hu
      · rw [o f c6 c4 (by omega)]; exact C5 f u h1 h2 h3 hu
  · rw [on 22 (by decide) (by decide) (by omega)]; exact C6 u hu
  · rw [o _ (by omega) (by omega) (by omega)]; exact (C7 u hu).1
  · rw [o _ (by omega) (by omega) (by omega)]; exact (C7 u hu).2.1
  · rw [o _ (by omega) (by omega) (by omega)]; exact (C7 u hu).2.2
  · rw [o f (by omega) (by omega) (by omega)]; exact C8 f hf
  · have q := (oth_L (n := n) (i := 0) (show c ≤ 13 by omega) (show (0 : Nat) ≤ 13 by decide) (show c ≠ 0 by omega) (add_e (K := rdyA K' (n + 1)) 0 (n + 1))).1
    show lsL (addK (rdyA K' (n + 1)) 0 (n + 1)) c = _
    rw [q, eA c h2]; exact C9 c h1 h2
  · show lsL (addK (rdyA K' (n + 1)) 0 (n + 1)) 0 = _
    rw [add_L (LAA 0 (by decide)).1 (by omega) (by rw [eA 0 (by decide)]; omega) ⟨by omega, Nat.le_refl _⟩, eA 0 (by decide), C10]
  · rw [on 10 (by decide) (by decide) (by omega)]; exact D10
  · rw [on 11 (by decide) (by decide) (by omega)]; exact D11
  · rw [on 12 (by decide) (by decide) (by omega)]; exact D12
  · rw [on _ (by omega) (by omega) (by omega)]; exact D1000 j hj
  · rw [on 13 (by decide) (by decide) (by omega)]; exact D13
  · rw [o 14 (by decide) (by decide) (by omega)]; exact D14
  · unfold nN; rw [e16, vu_s]; decide +kernel
  · rw [o 17 (by decide) (by decide) (by omega)]; exact D17
  · rw [on 18 (by decide) (by decide) (by omega)]; exact D18
  · rw [on 19 (by decide) (by decide) (by omega)]; exact D19
  · rw [on 20 (by decide) (by decide) (by omega)]; exact D20
  · rw [o 21 (by decide) (by decide) (by omega)]; exact D21
  · rw [on 22 (by decide) (by decide) (by omega)]; exact D22
  · rw [on 23 (by decide) (by decide) (by omega)]; exact D23
  · unfold nN; rw [e24, vu_s, nI_clamp (nN_lt K 2 0)]; rfl
  · rw [on 26 (by decide) (by decide) (by omega)]; exact D26
  · rw [on 27 (by decide) (by decide) (by omega)]; exact D27
  · rw [on 29 (by decide) (by decide) (by omega)]; exact D29
  · rw [on 30 (by decide) (by decide) (by omega)]; exact D30
  · rw [on 31 (by decide) (by decide) (by omega)]; exact D31
  · rw [on 32 (by decide) (by decide) (by omega)]; exact D32
  · rw [on 33 (by decide) (by decide) (by omega)]; exact D33
  · rw [on 34 (by decide) (by decide) (by omega)]; exact D34
  · rw [on 35 (by decide) (by decide) (by omega)]; exact D35
end MKNS
