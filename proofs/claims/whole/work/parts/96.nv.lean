/-! NATURALS: the fields of M (and of K) seen as natural numbers; the piles as lists -/
section NVW
theorem nN_lt (M : MS) (f i : Nat) : nN M f i < 2 ^ 31 := by
  unfold nN
  have h := Int32.toInt_lt (M f i)
  show (M f i).toInt.toNat < 2 ^ 31
  omega
theorem cl_lt (x : Int32) : x.toNatClampNeg < 2 ^ 31 := by
  have h := Int32.toInt_lt x
  show x.toInt.toNat < 2 ^ 31
  omega
theorem nI_nn {x : Int32} (h : ¬ x < 0) : x = nI x.toNatClampNeg := by
  obtain ⟨j, hj, rfl⟩ := nI_of h
  rw [nI_clamp hj]
def NT (e : Nat → Bool) (M : MS) : Prop := ∀ f i, e f = false → M f i = nI (nN M f i)
def exM (f : Nat) : Bool := match f with | 6 => true | 11 => true | 14 => true | 35 => true | 48 => true | 49 => true | 57 => true | 58 => true | 59 => true | 60 => true | 61 => true | 62 => true | 63 => true | 64 => true | 65 => true | _ => false
variable {e : Nat → Bool} {M : MS} {f g i j k : Nat}
theorem NT.eq (h : NT e M) (hf : e f = false) {c : Nat} (hc : c < 2 ^ 31) : M f i = nI c ↔ nN M f i = c := ⟨fun q => nN_of q hc, fun q => by rw [h f i hf, q]⟩
theorem NT.z (h : NT e M) (hf : e f = false) : M f i = 0 ↔ nN M f i = 0 := by rw [← nI_0]; exact h.eq hf (by decide)
theorem NT.le (h : NT e M) (hf : e f = false) {c : Nat} (hc : c < 2 ^ 31) : nI c ≤ M f i ↔ c ≤ nN M f i := by rw [h f i hf, nI_leI hc (nN_lt M f i)]
theorem NT.ge (h : NT e M) (hf : e f = false) {c : Nat} (hc : c < 2 ^ 31) : M f i ≤ nI c ↔ nN M f i ≤ c := by rw [h f i hf, nI_leI (nN_lt M f i) hc]
theorem NT.e2 (h : NT e M) (hf : e f = false) (hg : e g = false) : M f i = M g j ↔ nN M f i = nN M g j := by rw [h g j hg, h.eq hf (nN_lt M g j)]
theorem NT.l2 (h : NT e M) (hf : e f = false) (hg : e g = false) : M f i ≤ M g j ↔ nN M f i ≤ nN M g j := by rw [h g j hg, h.ge hf (nN_lt M g j)]
theorem NT.lt2 (h : NT e M) (hf : e f = false) (hg : e g = false) : M f i < M g j ↔ nN M f i < nN M g j := by rw [h f i hf, h g j hg, nI_ltI (nN_lt M f i) (nN_lt M g j)]
theorem NT.up (h : NT e M) {v : Int32} (hv : e k = false → v = nI v.toNatClampNeg) : NT e (up2 M k i v) := by
  intro f j hf
  by_cases hfk : f = k
  · subst hfk
    by_cases hji : j = i
    · subst hji; rw [nN, up2_s]; exact hv hf
    · rw [nN, up2_i hji]; exact h f j hf
  · rw [nN, up2_f hfk]; exact h f j hf
theorem NT.upn (h : NT e M) {v : Nat} (hv : v < 2 ^ 31) : NT e (up2 M k i (nI v)) := h.up (fun _ => by rw [nI_clamp hv])
theorem NT.upx (h : NT e M) {v : Int32} (hk : e k = true) : NT e (up2 M k i v) := h.up (fun q => by rw [hk] at q; cases q)
theorem NT.upm (h : NT e M) (hg : e g = false) : NT e (up2 M k i (M g j)) := h.up (fun _ => h g j hg)
theorem nN_f {v : Int32} (h : f ≠ k) : nN (up2 M k i v) f = nN M f := by funext j; unfold nN; rw [up2_f h]
theorem nN_s {v : Int32} : nN (up2 M k i v) k = va_up (nN M k) i v.toNatClampNeg := by
  funext j
  unfold nN va_up
  by_cases h : j = i
  · subst h; rw [up2_s, if_pos rfl]
  · rw [up2_i h, if_neg h]
theorem nN_sn {v : Nat} (hv : v < 2 ^ 31) : nN (up2 M k i (nI v)) k = va_up (nN M k) i v := by rw [nN_s, nI_clamp hv]
theorem nN_e {M M' : MS} (h : M' f = M f) : nN M' f = nN M f := by funext j; unfold nN; rw [h]
theorem vu_s {α : Type} {f : Nat → α} {i : Nat} {v : α} : va_up f i v i = v := if_pos rfl
theorem vu_n {α : Type} {f : Nat → α} {i j : Nat} {v : α} (h : j ≠ i) : va_up f i v j = f j := if_neg h
/-- the pile of cook c -/
def plM (M : MS) (c : Nat) : List Nat := (List.range (nN M 47 c)).map (fun j => nN M 46 (201 * c + j))
theorem pl_len (M : MS) (c : Nat) : (plM M c).length = nN M 47 c := by rw [plM, List.length_map, List.length_range]
theorem pl_e {M M' : MS} {c : Nat} (h6 : M' 46 = M 46) (h7 : M' 47 = M 47) : plM M' c = plM M c := by unfold plM; rw [nN_e h6, nN_e h7]
theorem nd_len {l : List Nat} {n : Nat} (h : l.Nodup) (hb : ∀ u ∈ l, 1 ≤ u ∧ u ≤ n) : l.length ≤ n := by
  have := h.length_le_of_subset (l₂ := List.range' 1 n) (fun u hu => by rw [List.mem_range'_1]; have := hb u hu; omega)
  rwa [List.length_range'] at this
theorem map_shift (g : Nat → Nat) (q : Nat) : (List.range (q + 1)).map g = g 0 :: (List.range q).map (fun j => g (j + 1)) := by
  rw [List.range_succ_eq_map, List.map_cons, List.map_map]; rfl
theorem levF_L (c s : Nat) (hs : s < 2 ^ 31) : ∀ (q k n : Nat) (M : MS), NT exM M → n ≤ k →
    (List.range (levF c s q k n M).2).map (fun j => nN (levF c s q k n M).1 46 (201 * c + j)) = (List.range n).map (fun j => nN M 46 (201 * c + j)) ++ ((List.range q).map (fun j => nN M 46 (201 * c + k + j))).filter (fun u => u != s) ∧
    (∀ i, ¬ (201 * c ≤ i ∧ i < 201 * c + k + q) → (levF c s q k n M).1 46 i = M 46 i) ∧ NT exM (levF c s q k n M).1
  | 0, k, n, M, hN, _ => by
    refine ⟨?_, fun _ _ => rfl, hN⟩
    simp [levF]
  | q + 1, k, n, M, hN, hnk => by
    rw [map_shift]
    have e1 : (fun j => nN M 46 (201 * c + k + (j + 1))) = fun j => nN M 46 (201 * c + (k + 1) + j) := by funext j; rw [show 201 * c + k + (j + 1) = 201 * c + (k + 1) + j by omega]
    rw [e1]
    by_cases h : M 46 (201 * c + k) = nI s
    · have h2 : nN M 46 (201 * c + k + 0) = s := nN_of h hs
      obtain ⟨a, b, d⟩ := levF_L c s hs q (k + 1) n M hN (by omega)
      have e2 : levF c s (q + 1) k n M = levF c s q (k + 1) n M := by rw [levF, if_pos h]
      rw [e2]
      refine ⟨?_, fun i hi => b i (by omega), d⟩
      rw [a, h2, List.filter_cons_of_neg (by simp)]
    · have h2 : nN M 46 (201 * c + k + 0) ≠ s := fun q => h ((hN.eq rfl hs).mpr q)
      have hM1 : NT exM (up2 M 46 (201 * c + n) (M 46 (201 * c + k))) := hN.upm rfl
      obtain ⟨a, b, d⟩ := levF_L c s hs q (k + 1) (n + 1) _ hM1 (by omega)
      have e2 : levF c s (q + 1) k n M = levF c s q (k + 1) (n + 1) (up2 M 46 (201 * c + n) (M 46 (201 * c + k))) := by rw [levF, if_neg h]
      rw [e2]
      refine ⟨?_, fun i hi => ?_, d⟩
      · rw [a, List.filter_cons_of_pos (by simpa using h2), List.range_succ, List.map_append, List.append_assoc]
        have e3 : (List.range n).map (fun j => nN (up2 M 46 (201 * c + n) (M 46 (201 * c + k))) 46 (201 * c + j)) = (List.range n).map (fun j => nN M 46 (201 * c + j)) := by
          refine List.map_congr_left (fun j hj => ?_)
          have := List.mem_range.mp hj
          rw [nN_s, vu_n (by omega)]
        have e4 : (List.range q).map (fun j => nN (up2 M 46 (201 * c + n) (M 46 (201 * c + k))) 46 (201 * c + (k + 1) + j)) = (List.range q).map (fun j => nN M 46 (201 * c + (k + 1) + j)) := by
          refine List.map_congr_left (fun j hj => ?_)
          rw [nN_s, vu_n (by omega)]
        rw [e3, e4]
        congr 1
        rw [List.map_cons, List.map_nil, nN_s, vu_s]
        rfl
      · rw [b i (by omega), up2_i (by omega)]
/-- leave: the pile of its cook without it -/
theorem lev_pl {M : MS} {s : Nat} (hN : NT exM M) (hs : s < 2 ^ 31) (hc : nN M 25 s ≤ 12) (hq : ∀ c, c ≤ 12 → nN M 47 c ≤ 200) (hnd : (plM M (nN M 25 s)).Nodup) :
    (plM (levM M s) (nN M 25 s) = (plM M (nN M 25 s)).erase s) ∧ (∀ c, c ≤ 12 → c ≠ nN M 25 s → plM (levM M s) c = plM M c) ∧ NT exM (levM M s) ∧ ∀ f, f ≠ 46 → f ≠ 47 → levM M s f = M f := by
  generalize hc0 : nN M 25 s = c0 at hc hnd ⊢
  obtain ⟨a, b, d⟩ := levF_L c0 s hs (nN M 47 c0) 0 0 M hN (Nat.le_refl 0)
  generalize hR : levF c0 s (nN M 47 c0) 0 0 M = R at a b d
  have e1 : levM M s = up2 R.1 47 c0 (nI R.2) := by unfold levM; rw [hc0, hR]
  have ho : ∀ f, f ≠ 46 → R.1 f = M f := fun f hf => by rw [← hR]; exact levF_o c0 s _ _ _ _ f hf
  rw [List.range_zero, List.map_nil, List.nil_append, Nat.add_zero] at a
  have hl : R.2 ≤ 200 := by
    have := congrArg List.length a
    rw [List.length_map, List.length_range] at this
    have h2 := List.length_filter_le (fun u => u != s) ((List.range (nN M 47 c0)).map (fun j => nN M 46 (201 * c0 + j)))
    rw [List.length_map, List.length_range] at h2
    have := hq c0 hc
    omega
  rw [e1]
  refine ⟨?_, fun c hc1 hc2 => ?_, d.upn (by omega), fun f h6 h7 => by rw [up2_f h7, ho f h6]⟩
  · rw [plM, nN_sn (by omega), vu_s, nN_f (by decide), a, hnd.erase_eq_filter]
    rfl
  · rw [plM, nN_sn (by omega), vu_n hc2, nN_f (by decide), plM, nN_e (ho 47 (by decide))]
    refine List.map_congr_left (fun j hj => ?_)
    have h1 := List.mem_range.mp hj
    have h2 := hq c hc1
    have h3 := hq c0 hc
    rw [nN, b _ (by omega)]; rfl
end NVW
