/-! the reference's tree of a failure: its stack as a list -/
section STKS
variable {n k F w x y : Nat} {M M1 M' : MS}
abbrev SE : Type := Nat × Int32 × Int32
def SK (M : MS) : List SE := (List.range (nN M 64 0)).reverse.map (fun k => (nN M 61 k, M 62 k, M 63 k))
theorem SK_e (h : ∀ f, 61 ≤ f → f ≤ 64 → M' f = M f) : SK M' = SK M := by
  unfold SK
  rw [nN_e (h 64 (by decide) (by decide)), nN_e (h 61 (by decide) (by decide)), h 62 (by decide) (by decide), h 63 (by decide) (by decide)]
theorem SK_len : (SK M).length = nN M 64 0 := by unfold SK; rw [List.length_map, List.length_reverse, List.length_range]
theorem SK_s {o : Nat} (h : nN M 64 0 = o + 1) (h' : nN M' 64 0 = o) (e : ∀ f, 61 ≤ f → f ≤ 63 → M' f = M f) : SK M = (nN M 61 o, M 62 o, M 63 o) :: SK M' := by
  unfold SK
  rw [h, h', List.range_succ, List.reverse_append, List.map_append, nN_e (e 61 (by decide) (by decide)), e 62 (by decide) (by decide), e 63 (by decide) (by decide)]
  rfl
theorem opn_o {o f : Nat} {a b c : Int32} (h1 : f ≠ 61) (h2 : f ≠ 62) (h3 : f ≠ 63) (h4 : f ≠ 64) : opnM M o a b c f = M f := by
  unfold opnM; rw [up2_f h4, up2_f h3, up2_f h2, up2_f h1]
theorem SK_opn {o : Nat} {f up ro : Int32} (ho : nN M 64 0 = o) (hb : o + 1 < 2 ^ 31) : SK (opnM M o f up ro) = (f.toNatClampNeg, up, ro) :: SK M ∧ nN (opnM M o f up ro) 64 0 = o + 1 := by
  have e64 : nN (opnM M o f up ro) 64 0 = o + 1 := by unfold opnM; rw [nN_sn hb, vu_s]
  refine ⟨?_, e64⟩
  unfold SK
  rw [e64, ho, List.range_succ, List.reverse_append, List.map_append]
  have e61 : ∀ k, opnM M o f up ro 61 k = if k = o then f else M 61 k := fun k => by
    unfold opnM
    rw [up2_f (by decide), up2_f (by decide), up2_f (by decide)]
    by_cases c : k = o
    · subst c; rw [up2_s, if_pos rfl]
    · rw [up2_n (by omega), if_neg c]
  have e62 : ∀ k, opnM M o f up ro 62 k = if k = o then up else M 62 k := fun k => by
    unfold opnM
    rw [up2_f (by decide), up2_f (by decide)]
    by_cases c : k = o
    · subst c; rw [up2_s, if_pos rfl]
    · rw [up2_n (by omega), if_neg c, up2_f (by decide)]
  have e63 : ∀ k, opnM M o f up ro 63 k = if k = o then ro else M 63 k := fun k => by
    unfold opnM
    rw [up2_f (by decide)]
    by_cases c : k = o
    · subst c; rw [up2_s, if_pos rfl]
    · rw [up2_n (by omega), if_neg c, up2_f (by decide), up2_f (by decide)]
  have hd : [o].reverse.map (fun k => (nN (opnM M o f up ro) 61 k, opnM M o f up ro 62 k, opnM M o f up ro 63 k)) = [(f.toNatClampNeg, up, ro)] := by
    show [(nN (opnM M o f up ro) 61 o, opnM M o f up ro 62 o, opnM M o f up ro 63 o)] = _
    unfold nN
    rw [e61, e62, e63, if_pos rfl, if_pos rfl, if_pos rfl]
  rw [hd]
  have tl : (List.range o).reverse.map (fun k => (nN (opnM M o f up ro) 61 k, opnM M o f up ro 62 k, opnM M o f up ro 63 k)) = (List.range o).reverse.map (fun k => (nN M 61 k, M 62 k, M 63 k)) := by
    refine List.map_congr_left (fun k hk => ?_)
    have : k < o := List.mem_range.mp (List.mem_reverse.mp hk)
    unfold nN
    rw [e61, e62, e63, if_neg (by omega), if_neg (by omega), if_neg (by omega)]
  rw [tl]
  rfl
theorem SK_tp {a : Nat} {w : Int32} : ∀ (k : Nat) (M : MS), nN M 64 0 + k < 2 ^ 31 → SK (tpF a w k M) = (List.range k).map (fun j => (nN M 39 (a + j), w, nI 2)) ++ SK M ∧ nN (tpF a w k M) 64 0 = nN M 64 0 + k ∧ ∀ f, f < 61 ∨ 64 < f → tpF a w k M f = M f
  | 0, M, _ => ⟨rfl, rfl, fun _ _ => rfl⟩
  | k + 1, M, hb => by
    rw [tpF]
    obtain ⟨s1, s2⟩ := SK_opn (M := M) (o := nN M 64 0) (f := M 39 (a + k)) (up := w) (ro := nI 2) rfl (by omega)
    obtain ⟨r1, r2, r3⟩ := SK_tp (a := a) (w := w) k (opnM M (nN M 64 0) (M 39 (a + k)) w (nI 2)) (by rw [s2]; omega)
    have e39 : ∀ j, nN (opnM M (nN M 64 0) (M 39 (a + k)) w (nI 2)) 39 j = nN M 39 j := fun j => by rw [nN_e (opn_o (by decide) (by decide) (by decide) (by decide))]
    refine ⟨?_, by rw [r2, s2]; omega, fun f hf => by rw [r3 f hf, opn_o (by omega) (by omega) (by omega) (by omega)]⟩
    rw [r1, s1, List.range_succ, List.map_append, List.append_assoc]
    have : (fun j => (nN (opnM M (nN M 64 0) (M 39 (a + k)) w (nI 2)) 39 (a + j), w, nI 2)) = fun j => (nN M 39 (a + j), w, nI 2) := funext (fun j => by rw [e39])
    rw [this]
    rfl
theorem trV_E (M : MS) (o r g : Nat) (hr : r + 1 < 2 ^ 31) (ho : o < 2 ^ 31) : (∀ f, f < 57 → trV M o r g f = M f) ∧ trV M o r g 65 = va_up (M 65) g (nI 1) ∧ trV M o r g 57 = va_up (M 57) r (nI g) ∧ trV M o r g 58 = va_up (M 58) r (M 62 o) ∧ trV M o r g 59 = va_up (M 59) r (M 63 o) ∧ trV M o r g 60 0 = nI (r + 1) ∧ nN (trV M o r g) 64 0 = o ∧ ∀ f, 61 ≤ f → f ≤ 63 → trV M o r g f = M f := by
  unfold trV
  refine ⟨fun f hf => ?_, ?_, ?_, ?_, ?_, ?_, ?_, fun f h1 h2 => ?_⟩
  · rw [up2_f (by omega), up2_f (by omega), up2_f (by omega), up2_f (by omega), up2_f (by omega), up2_f (by omega)]
  · rw [up2_f (by decide), up2_f (by decide), up2_f (by decide), up2_f (by decide), up2_va, up2_f (by decide)]
  · rw [up2_f (by decide), up2_f (by decide), up2_f (by decide), up2_va, up2_f (by decide), up2_f (by decide)]
  · rw [up2_f (by decide), up2_f (by decide), up2_va, up2_f (by decide), up2_f (by decide), up2_f (by decide)]
  · rw [up2_f (by decide), up2_va, up2_f (by decide), up2_f (by decide), up2_f (by decide), up2_f (by decide)]
  · rw [up2_s]
  · rw [nN_f (by decide), nN_f (by decide), nN_f (by decide), nN_f (by decide), nN_f (by decide), nN_sn ho, vu_s]
  · rw [up2_f (by omega), up2_f (by omega), up2_f (by omega), up2_f (by omega), up2_f (by omega), up2_f (by omega)]
/-- a failure is reached -/
theorem trS_E {r g : Nat} {up ro : Int32} {s : List SE} (hs : SK M = (g, up, ro) :: s) (hr : r + 1 < 2 ^ 31) (hb : nN M 64 0 + 40 < 2 ^ 31) (h37 : nN M 37 g ≤ 24) :
    (∀ f, f < 57 → trS M (nN M 64 0 - 1) r g f = M f) ∧ trS M (nN M 64 0 - 1) r g 65 = va_up (M 65) g (nI 1) ∧ (trS M (nN M 64 0 - 1) r g 57 = va_up (M 57) r (nI g) ∧ trS M (nN M 64 0 - 1) r g 58 = va_up (M 58) r up ∧ trS M (nN M 64 0 - 1) r g 59 = va_up (M 59) r ro ∧ trS M (nN M 64 0 - 1) r g 60 0 = nI (r + 1)) ∧
    SK (trS M (nN M 64 0 - 1) r g) = (if M 35 g = -1 then [] else [((M 35 g).toNatClampNeg, nI r, nI 1)]) ++ ((List.range (nN M 37 g)).map (fun j => (nN M 39 (nN M 36 g + j), nI r, nI 2)) ++ s) := by
  have hl : nN M 64 0 = s.length + 1 := by rw [← SK_len, hs]; rfl
  obtain ⟨v1, v2, v3, v4, v5, v6, v7, v8⟩ := trV_E M (nN M 64 0 - 1) r g hr (by omega)
  have hs2 := SK_s (M := M) (M' := trV M (nN M 64 0 - 1) r g) (o := nN M 64 0 - 1) (by omega) v7 v8
  rw [hs] at hs2
  injection hs2 with he ht
  have eg : g = nN M 61 (nN M 64 0 - 1) := congrArg (fun z => z.1) he
  have eu : up = M 62 (nN M 64 0 - 1) := congrArg (fun z => z.2.1) he
  have er : ro = M 63 (nN M 64 0 - 1) := congrArg (fun z => z.2.2) he
  rw [← eu] at v4
  rw [← er] at v5
  obtain ⟨q1, q2, q3⟩ := SK_tp (a := nN M 36 g) (w := nI r) (nN M 37 g) (trV M (nN M 64 0 - 1) r g) (by rw [v7]; omega)
  have e39 : (fun j => (nN (trV M (nN M 64 0 - 1) r g) 39 (nN M 36 g + j), nI r, nI 2)) = fun j => (nN M 39 (nN M 36 g + j), nI r, nI 2) := funext (fun j => by rw [nN_e (v1 39 (by decide))])
  rw [e39, ← ht] at q1
  unfold trS
  have eQ : trQ M (nN M 64 0 - 1) r g = tpF (nN M 36 g) (nI r) (nN M 37 g) (trV M (nN M 64 0 - 1) r g) := rfl
  rw [eQ]
  by_cases c : M 35 g = -1
  · rw [if_pos c, if_pos c, List.nil_append]
    exact ⟨fun f hf => by rw [q3 f (by omega), v1 f hf], by rw [q3 65 (by omega), v2], ⟨by rw [q3 57 (by omega), v3], by rw [q3 58 (by omega), v4], by rw [q3 59 (by omega), v5], by rw [q3 60 (by omega), v6]⟩, q1⟩
  · rw [if_neg c, if_neg c]
    obtain ⟨s1, s2⟩ := SK_opn (M := tpF (nN M 36 g) (nI r) (nN M 37 g) (trV M (nN M 64 0 - 1) r g)) (o := nN (tpF (nN M 36 g) (nI r) (nN M 37 g) (trV M (nN M 64 0 - 1) r g)) 64 0) (f := M 35 g) (up := nI r) (ro := nI 1) rfl (by rw [q2, v7]; omega)
    have oo : ∀ f, f ≠ 61 → f ≠ 62 → f ≠ 63 → f ≠ 64 → opnM (tpF (nN M 36 g) (nI r) (nN M 37 g) (trV M (nN M 64 0 - 1) r g)) (nN (tpF (nN M 36 g) (nI r) (nN M 37 g) (trV M (nN M 64 0 - 1) r g)) 64 0) (M 35 g) (nI r) (nI 1) f = tpF (nN M 36 g) (nI r) (nN M 37 g) (trV M (nN M 64 0 - 1) r g) f := fun f h1 h2 h3 h4 => opn_o h1 h2 h3 h4
    refine ⟨fun f hf => by rw [oo f (by omega) (by omega) (by omega) (by omega), q3 f (by omega), v1 f hf], by rw [oo 65 (by decide) (by decide) (by decide) (by decide), q3 65 (by omega), v2], ⟨by rw [oo 57 (by decide) (by decide) (by decide) (by decide), q3 57 (by omega), v3], by rw [oo 58 (by decide) (by decide) (by decide) (by decide), q3 58 (by omega), v4], by rw [oo 59 (by decide) (by decide) (by decide) (by decide), q3 59 (by omega), v5], by rw [oo 60 (by decide) (by decide) (by decide) (by decide), q3 60 (by omega), v6]⟩, ?_⟩
    rw [s1, q1]
    rfl
/-- one step of the reference's walk -/
theorem trF_see {q : Nat} {e : SE} {s : List SE} (hs : SK M = e :: s) (h65 : ¬ M 65 e.1 = 0) : trF (q + 1) M = trF q (up2 M 64 0 (nI (nN M 64 0 - 1))) ∧ SK (up2 M 64 0 (nI (nN M 64 0 - 1))) = s := by
  have hl : nN M 64 0 = s.length + 1 := by rw [← SK_len, hs]; rfl
  have hlt := nN_lt M 64 0
  have hs2 := SK_s (M := M) (M' := up2 M 64 0 (nI (nN M 64 0 - 1))) (o := nN M 64 0 - 1) (by omega) (by rw [nN_sn (by omega), vu_s]) (fun f h1 h2 => up2_f (by omega))
  rw [hs] at hs2
  injection hs2 with he ht
  have eg : e.1 = nN M 61 (nN M 64 0 - 1) := congrArg (fun z => z.1) he
  refine ⟨?_, ht.symm⟩
  rw [trF, if_neg (by omega), if_neg (by rw [← eg]; exact h65)]
theorem trF_new {q : Nat} {e : SE} {s : List SE} (hs : SK M = e :: s) (h65 : M 65 e.1 = 0) : trF (q + 1) M = trF q (trS M (nN M 64 0 - 1) (nN M 60 0) e.1) := by
  have hl : nN M 64 0 = s.length + 1 := by rw [← SK_len, hs]; rfl
  have hlt := nN_lt M 64 0
  have hs2 := SK_s (M := M) (M' := up2 M 64 0 (nI (nN M 64 0 - 1))) (o := nN M 64 0 - 1) (by omega) (by rw [nN_sn (by omega), vu_s]) (fun f h1 h2 => up2_f (by omega))
  rw [hs] at hs2
  injection hs2 with he ht
  have eg : e.1 = nN M 61 (nN M 64 0 - 1) := congrArg (fun z => z.1) he
  rw [trF, if_neg (by omega), ← eg, if_pos h65]
theorem trF_nil {q : Nat} (hs : SK M = []) : trF q M = M := by
  have hl : nN M 64 0 = 0 := by rw [← SK_len, hs]; rfl
  match q with
  | 0 => rfl
  | q + 1 => rw [trF, if_pos hl]
theorem tp_o {a : Nat} {w : Int32} {f : Nat} (hf : f < 61 ∨ 64 < f) : ∀ (k : Nat) (M : MS), tpF a w k M f = M f
  | 0, _ => rfl
  | k + 1, M => by rw [tpF, tp_o hf k, opn_o (by omega) (by omega) (by omega) (by omega)]
theorem trS_k {o r g f p : Nat} (hf : f = 57 ∨ f = 58 ∨ f = 59) (hp : p ≠ r) : trS M o r g f p = M f p := by
  have e : trQ M o r g f p = M f p := by
    unfold trQ
    rw [tp_o (by omega)]
    unfold trV
    rw [up2_n (by omega), up2_n (by omega), up2_n (by omega), up2_n (by omega), up2_n (by omega), up2_n (by omega)]
  unfold trS
  split
  · exact e
  · rw [opn_o (by omega) (by omega) (by omega) (by omega)]; exact e
theorem trS_60 {o r g : Nat} : trS M o r g 60 0 = nI (r + 1) := by
  have e : trQ M o r g 60 0 = nI (r + 1) := by
    unfold trQ
    rw [tp_o (by omega)]
    unfold trV
    rw [up2_s]
  unfold trS
  split
  · exact e
  · rw [opn_o (by omega) (by omega) (by omega) (by omega)]; exact e
/-- what has its place keeps it -/
theorem trF_keep : ∀ (q : Nat) (M : MS), nN M 60 0 + q < 2 ^ 31 → M 60 0 = nI (nN M 60 0) → nN M 60 0 ≤ nN (trF q M) 60 0 ∧ trF q M 60 0 = nI (nN (trF q M) 60 0) ∧ ∀ f p, f = 57 ∨ f = 58 ∨ f = 59 → p < nN M 60 0 → trF q M f p = M f p
  | 0, M, _, h => ⟨Nat.le_refl _, h, fun _ _ _ _ => rfl⟩
  | q + 1, M, hb, h => by
    rw [trF]
    by_cases c : nN M 64 0 = 0
    · rw [if_pos c]; exact ⟨Nat.le_refl _, h, fun _ _ _ _ => rfl⟩
    · rw [if_neg c]
      by_cases c2 : M 65 (nN M 61 (nN M 64 0 - 1)) = 0
      · rw [if_pos c2]
        have e60 : nN (trS M (nN M 64 0 - 1) (nN M 60 0) (nN M 61 (nN M 64 0 - 1))) 60 0 = nN M 60 0 + 1 := nN_of trS_60 (by omega)
        obtain ⟨r1, r2, r3⟩ := trF_keep q (trS M (nN M 64 0 - 1) (nN M 60 0) (nN M 61 (nN M 64 0 - 1))) (by rw [e60]; omega) (by rw [e60, trS_60])
        rw [e60] at r1 r3
        exact ⟨by omega, r2, fun f p hf hp => by rw [r3 f p hf (by omega), trS_k hf (by omega)]⟩
      · rw [if_neg c2]
        have e60 : nN (up2 M 64 0 (nI (nN M 64 0 - 1))) 60 0 = nN M 60 0 := by rw [nN_f (by decide)]
        obtain ⟨r1, r2, r3⟩ := trF_keep q (up2 M 64 0 (nI (nN M 64 0 - 1))) (by rw [e60]; omega) (by rw [e60, up2_f (by decide)]; exact h)
        rw [e60] at r1 r3
        exact ⟨r1, r2, fun f p hf hp => by rw [r3 f p hf hp, up2_f (by omega)]⟩
end STKS
