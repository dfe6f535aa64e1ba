/-! the class: a new kitchen -/
section CR
section HSS
abbrev CT : Type := Nat → Nat → AC
def uA (A : AS) (k i q : Nat) : AS := fun x y => if x = k ∧ y = i then q else A x y
def uC (c : CT) (k i : Nat) (v : AC) : CT := fun x y => if x = k ∧ y = i then v else c x y
theorem uA_n {A : AS} {k i q x y : Nat} (h : ¬ (x = k ∧ y = i)) : uA A k i q x y = A x y := if_neg h
theorem uA_s {A : AS} {k i q : Nat} : uA A k i q k i = q := if_pos ⟨rfl, rfl⟩
theorem uC_n {c : CT} {k i x y : Nat} {v : AC} (h : ¬ (x = k ∧ y = i)) : uC c k i v x y = c x y := if_neg h
theorem uC_s {c : CT} {k i : Nat} {v : AC} : uC c k i v k i = v := if_pos ⟨rfl, rfl⟩
/-- the objects of S lie where A says, with the cells that c says -/
def HS (S : Nat → Nat → Prop) (A : AS) (c : CT) (G : GH) : Prop := (∀ k i, S k i → G (A k i) = some (c k i)) ∧ ∀ k i k' i', S k i → S k' i' → A k i = A k' i' → k = k' ∧ i = i'
variable {S : Nat → Nat → Prop} {A : AS} {c : CT} {G : GH}
theorem HS.nw (h : HS S A c G) {q : Nat} (hq : G q = none) (k i : Nat) (v : AC) : HS (fun x y => S x y ∨ (x = k ∧ y = i)) (uA A k i q) (uC c k i v) (va_up G q (some v)) := by
  refine ⟨fun x y hS => ?_, fun x y x' y' hS hS' e => ?_⟩
  · by_cases z : x = k ∧ y = i
    · obtain ⟨rfl, rfl⟩ := z
      rw [uA_s, uC_s, up_eq]
    · have hS := hS.resolve_right z
      rw [uA_n z, uC_n z, up_ne (ne_none (h.1 x y hS) hq)]; exact h.1 x y hS
  · by_cases z : x = k ∧ y = i
    · obtain ⟨rfl, rfl⟩ := z
      by_cases z' : x' = x ∧ y' = y
      · exact ⟨z'.1.symm, z'.2.symm⟩
      · rw [uA_s, uA_n z'] at e
        exact absurd e.symm (ne_none (h.1 x' y' (hS'.resolve_right z')) hq)
    · by_cases z' : x' = k ∧ y' = i
      · obtain ⟨rfl, rfl⟩ := z'
        rw [uA_s, uA_n z] at e
        exact absurd e (ne_none (h.1 x y (hS.resolve_right z)) hq)
      · rw [uA_n z, uA_n z'] at e
        exact h.2 _ _ _ _ (hS.resolve_right z) (hS'.resolve_right z') e
theorem HS.pt (h : HS S A c G) {a : Nat} (k i : Nat) (hS : S k i) (e : A k i = a) (v : AC) : HS S A (uC c k i v) (va_up G a (some v)) := by
  refine ⟨fun x y hxy => ?_, h.2⟩
  by_cases z : x = k ∧ y = i
  · obtain ⟨rfl, rfl⟩ := z
    rw [uC_s, e, up_eq]
  · rw [uC_n z, up_ne (fun w => z (h.2 _ _ _ _ hxy hS (w.trans e.symm)))]; exact h.1 x y hxy
theorem HS.at (h : HS S A c G) {a : Nat} {v : AC} (k i : Nat) (hS : S k i) (e : A k i = a) (e' : c k i = v) : G a = some v := by rw [← e, ← e']; exact h.1 k i hS
theorem HS.cg (h : HS S A c G) {c' : CT} (e : ∀ k i, S k i → c k i = c' k i) : HS S A c' G := ⟨fun k i hS => (h.1 k i hS).trans (congrArg some (e k i hS)), h.2⟩
theorem HS.sb (h : HS S A c G) {S' : Nat → Nat → Prop} (e : ∀ k i, S' k i → S k i) : HS S' A c G := ⟨fun k i hS => h.1 k i (e k i hS), fun _ _ _ _ a b => h.2 _ _ _ _ (e _ _ a) (e _ _ b)⟩
end HSS
variable {l : Launch} {Y : YT}
abbrev kc (o0 o1 o2 o3 o4 o5 o6 : Option Nat) (x0 x1 x2 x3 x4 : Int32) : AC := .inr (8, [.inr (.inr o0), .inr (.inr o1), .inr (.inr o2), .inr (.inr o3), .inr (.inr o4), .inr (.inr o5), .inr (.inr o6), .inl x0, .inl x1, .inl x2, .inl x3, .inl x4])
/-- the numbers of a new kitchen -/
def K0 : MS := fun f i => if f = 1 then nI 1 else if f = 60 then nI i else if f = 81 then nI 192 else 0
def L0 : KL := fun _ _ => 0
theorem K0_n {f i : Nat} (h1 : f ≠ 1) (h2 : f ≠ 60) (h3 : f ≠ 81) : K0 f i = 0 := by unfold K0; rw [if_neg h1, if_neg h2, if_neg h3]
theorem K0_60 {i : Nat} : K0 60 i = nI i := rfl
def SB (j : Nat) (k i : Nat) : Prop := ((k = 8 ∨ k = 9) ∧ 1 ≤ i ∧ i ≤ j) ∨ (k = 9 ∧ i = 0) ∨ (k = 9 ∧ i = 13) ∨ (k = 0 ∧ i = 0) ∨ (11 ≤ k ∧ k ≤ 20 ∧ i = 0)
def cJ (Y : YT) (A : AS) (j : Nat) : CT := fun k i => if k = 20 then oar 3 12 (fun x => if x < j then some (A 8 (x + 1)) else none) else cel Y A K0 L0 k i
theorem cJ_n {A : AS} {j k i : Nat} (h : k ≠ 20) : cJ Y A j k i = cel Y A K0 L0 k i := if_neg h
theorem cJ_20 {A : AS} {j i : Nat} : cJ Y A j 20 i = oar 3 12 (fun x => if x < j then some (A 8 (x + 1)) else none) := if_pos rfl
/-- one cook more -/
theorem cJ_step {A : AS} {j q q' : Nat} (hj : j < 12) (k i : Nat) (h : SB (j + 1) k i) : uC (uC (uC (uC (cJ Y A j) 8 (j + 1) (.inr (2, [.inl 0, .inr (.inr none), .inl 0, .inl 0]))) 9 (j + 1) (alC (nI 0) (Y.2.2 0) 0)) 8 (j + 1) (.inr (2, [.inl (nI (j + 1)), .inr (.inr (some q')), .inl (nI 0), .inl (nI 0)]))) 20 0 (.inl (3, 12, .inr (.inr (.inr (.inr (va_up (fun x => if x < j then some (A 8 (x + 1)) else none) j (some q))))))) k i = cJ Y (uA (uA A 8 (j + 1) q) 9 (j + 1) q') (j + 1) k i := by
  have hA : ∀ x y, ¬ (x = 8 ∧ y = j + 1) → ¬ (x = 9 ∧ y = j + 1) → uA (uA A 8 (j + 1) q) 9 (j + 1) q' x y = A x y := fun x y a b => (uA_n b).trans (uA_n a)
  by_cases h20 : k = 20
  · subst h20
    have hi : i = 0 := by unfold SB at h; omega
    subst hi
    rw [uC_s, cJ_20]
    refine congrArg (fun f : Nat → Option Nat => (oar 3 12 f : AC)) ?_
    funext x
    by_cases z : x = j
    · subst z
      rw [up_eq, if_pos (by omega), uA_n (by omega), uA_s]
    · rw [up_ne z]
      by_cases z2 : x < j
      · rw [if_pos z2, if_pos (by omega), hA _ _ (by omega) (by omega)]
      · rw [if_neg z2, if_neg (by omega)]
  · rw [uC_n (fun z => h20 z.1), cJ_n h20]
    by_cases h8 : k = 8 ∧ i = j + 1
    · obtain ⟨rfl, rfl⟩ := h8
      rw [uC_s]
      show _ = (Sum.inr (2, [.inl (K0 60 (j + 1)), .inr (.inr (some (uA (uA A 8 (j + 1) q) 9 (j + 1) q' 9 (j + 1)))), .inl (K0 61 (j + 1)), .inl (K0 62 (j + 1))]) : AC)
      rw [uA_s, K0_60, K0_n (by decide) (by decide) (by decide), K0_n (by decide) (by decide) (by decide), nI_0]
    · rw [uC_n h8]
      by_cases h9 : k = 9 ∧ i = j + 1
      · obtain ⟨rfl, rfl⟩ := h9
        rw [uC_s]
        show _ = (Sum.inr (0, [.inl (K0 63 (j + 1)), .inr (.inr (some (if K0 65 (j + 1) = 0 then Y.2.2 0 else _))), .inl (K0 64 (j + 1))]) : AC)
        rw [K0_n (by decide) (by decide) (by decide), K0_n (by decide) (by decide) (by decide), K0_n (by decide) (by decide) (by decide), if_pos rfl]
        unfold alC; rw [nI_0]
      · rw [uC_n h9, uC_n h8, cJ_n h20]
        generalize hB : uA (uA A 8 (j + 1) q) 9 (j + 1) q' = B at hA
        have e : ∀ x, 11 ≤ x → B x 0 = A x 0 := fun x hx => hA _ _ (by omega) (by omega)
        unfold SB at h
        rcases h with ⟨rfl | rfl, h1, h2⟩ | ⟨rfl, rfl⟩ | ⟨rfl, rfl⟩ | ⟨rfl, rfl⟩ | ⟨h1, h2, rfl⟩
        · show (Sum.inr (2, [.inl (K0 60 i), .inr (.inr (some (A 9 i))), .inl (K0 61 i), .inl (K0 62 i)]) : AC) = Sum.inr (2, [.inl (K0 60 i), .inr (.inr (some (B 9 i))), .inl (K0 61 i), .inl (K0 62 i)])
          rw [hA 9 i (by omega) (fun z => h8 ⟨rfl, z.2⟩)]
        · rfl
        · rfl
        · rfl
        · show (Sum.inr (8, mnL A K0) : AC) = Sum.inr (8, mnL B K0)
          unfold mnL
          rw [e 19 (by decide), e 20 (by decide), hA 9 0 (by omega) (by omega), hA 9 13 (by omega) (by omega), e 11 (by decide), e 15 (by decide), e 17 (by decide)]
        · have hk : k = 11 ∨ k = 12 ∨ k = 13 ∨ k = 14 ∨ k = 15 ∨ k = 16 ∨ k = 17 ∨ k = 18 ∨ k = 19 := by omega
          rcases hk with rfl | rfl | rfl | rfl | rfl | rfl | rfl | rfl | rfl
          · show (Sum.inr (5, [.inr (.inr (some (A 12 0))), .inr (.inr (some (A 13 0))), .inr (.inr (some (A 14 0))), .inl (K0 70 0)]) : AC) = Sum.inr (5, [.inr (.inr (some (B 12 0))), .inr (.inr (some (B 13 0))), .inr (.inr (some (B 14 0))), .inl (K0 70 0)])
            rw [e 12 (by decide), e 13 (by decide), e 14 (by decide)]
          · rfl
          · rfl
          · rfl
          · show (Sum.inr (1, [.inr (.inr (some (A 16 0)))]) : AC) = Sum.inr (1, [.inr (.inr (some (B 16 0)))])
            rw [e 16 (by decide)]
          · rfl
          · show (Sum.inr (4, [.inr (.inr (some (A 18 0))), .inl (K0 80 0)]) : AC) = Sum.inr (4, [.inr (.inr (some (B 18 0))), .inl (K0 80 0)])
            rw [e 18 (by decide)]
          · rfl
          · rfl
/-- all cooks are there -/
theorem HS.KR {A : AS} {G : GH} (h : HS (SB 12) A (cel Y A K0 L0) G) : KR Y G A 0 0 K0 L0 := by
  have hl : ∀ k i, liv 0 0 K0 k i → SB 12 k i := by
    intro k i hl
    unfold SB
    match k, hl with
    | 0, hl => exact Or.inr (Or.inr (Or.inr (Or.inl ⟨rfl, hl.2⟩)))
    | 1, hl => exact absurd hl.2 (by have := hl.1; omega)
    | 2, hl => exact absurd hl.2 (by have := hl.1; omega)
    | 3, hl => exact absurd hl.2 (by have := hl.1; omega)
    | 4, hl => exact absurd hl.1.2 (by have := hl.1.1; omega)
    | 5, hl => exact absurd hl.1.2 (by have := hl.1.1; omega)
    | 6, hl => exact absurd hl.2 (by have := hl.1; omega)
    | 7, hl => exact absurd hl.2 (by have := hl.1; omega)
    | 8, hl => exact Or.inl ⟨Or.inl rfl, hl⟩
    | 9, hl => have : i ≤ 13 := hl; omega
    | 10, hl => exact absurd (K0_n (by decide) (by decide) (by decide)) hl.2
    | k + 11, hl => have : k + 11 ≤ 20 ∧ i = 0 := hl; omega
  refine ⟨fun k i hk => h.1 k i (hl k i hk), fun _ _ _ _ a b => h.2 _ _ _ _ (hl _ _ a) (hl _ _ b), by decide, by decide, fun f j hf _ => ?_, fun f j hf _ => ?_⟩
  · have := of_decide_eq_true hf
    rw [nN, K0_n (by omega) (by omega) (by omega)]; decide
  · have := of_decide_eq_true hf
    rw [nN, K0_n (by omega) (by omega) (by omega)]; decide
theorem arrV_cg {cI : ClassId} {N : Nat} {f g : Nat → Value} (h : ∀ j, j < N → f j = g j) : arrV cI N f = arrV cI N g := by
  unfold arrV
  rw [show (fun j : Fin N => f j.val) = fun j : Fin N => g j.val from funext (fun j => h j.val j.isLt)]
/-- what an array of references would hold beyond its length does not matter -/
theorem V.ar {p : Program} {e : Env} {R : Room} {s : State} {m : MethodId} {args : Array Value} {below : List Frame} {meth : Method} {c : Code} {A : Nat → Prop} {Q : State → Prop} {pc n k a t N : Nat} {G : GH} {lc : List (Option AV)} {st : List AV} {f f' : Nat → Option Nat} (ha : G a = some (.inl (t, N, .inr (.inr (.inr (.inr f)))))) (hf : ∀ j, j < N → f j = f' j) (h : V p l e R s m args below meth c Y A Q pc (va_up G a (some (.inl (t, N, .inr (.inr (.inr (.inr f'))))))) n k lc st) : V p l e R s m args below meth c Y A Q pc G n k lc st := by
  intro L H locs ls hL hP hD hS hl
  obtain ⟨z, hz⟩ := GL_idx (Y := Y) hL ha
  have e9 := GL_set (e' := .inl (t, N, .inr (.inr (.inr (.inr f'))))) hL ha hD hz
  refine h L H locs ls (GL_up hL ha) ?_ ?_ hS hl
  · rw [← e9]
    refine hP.set hD hz ?_ (fun _ _ => rfl)
    have h1 := hP z _ hz
    show H[a]? = some (arrV (Y.2.1 t) N (fun j => va_rf (f' j)))
    rw [← arrV_cg (fun j hj => congrArg va_rf (hf j hj))]
    exact h1
  · rw [← e9]; exact hD.set hz
theorem SB0 {k i : Nat} (hk : SB 0 k i) : (k = 9 ∧ i = 0) ∨ (k = 9 ∧ i = 13) ∨ (k = 0 ∧ i = 0) ∨ (k = 11 ∧ i = 0) ∨ (k = 12 ∧ i = 0) ∨ (k = 13 ∧ i = 0) ∨ (k = 14 ∧ i = 0) ∨ (k = 15 ∧ i = 0) ∨ (k = 16 ∧ i = 0) ∨ (k = 17 ∧ i = 0) ∨ (k = 18 ∧ i = 0) ∨ (k = 19 ∧ i = 0) ∨ (k = 20 ∧ i = 0) := by
  unfold SB at hk
  rcases hk with ⟨_, h1, h2⟩ | ⟨rfl, rfl⟩ | ⟨rfl, rfl⟩ | ⟨rfl, rfl⟩ | ⟨h1, h2, rfl⟩
  · exact absurd (Nat.le_trans h1 h2) (by decide)
  · simp
  · simp
  · simp
  · have h9 : k = 11 ∨ k = 12 ∨ k = 13 ∨ k = 14 ∨ k = 15 ∨ k = 16 ∨ k = 17 ∨ k = 18 ∨ k = 19 ∨ k = 20 := by omega
    rcases h9 with rfl | rfl | rfl | rfl | rfl | rfl | rfl | rfl | rfl | rfl <;> simp
set_option maxHeartbeats 1000000 in
theorem k_init (d : Nat) (G : GH) (a : Nat) (ha : G a = some (kc none none none none none none none 0 0 0 0 0)) : Cd l yX8_init cX8_init 2 none (d + 5) 36 850 Y [.inr (.inr (some a))] G (fun r G' => r = none ∧ ∃ A, KR Y G' A 0 0 K0 L0 ∧ A 0 0 = a) := by
  refine Ct.of (ini := True) (by decide +kernel) (fun _ => rfl) rfl (Nat.le_of_ble_eq_true rfl) ?_
  intro p e s m args below meth c C X
  refine b_X8_init_0.go C ⟨trivial, ?_⟩
  refine V_objInit C X q_109 d_X8_init_1 rfl ⟨Nat.succ_le_succ (Nat.zero_le _), by show 20 ≤ 40 * (d + 5); omega⟩ (Nat.zero_le _) ?_
  have H0 : HS (fun x y => x = 0 ∧ y = 0) (fun _ _ => a) (fun _ _ => kc none none none none none none none 0 0 0 0 0) G := ⟨fun _ _ _ => ha, fun _ _ _ _ p q _ => ⟨p.1.trans q.1.symm, p.2.trans q.2.symm⟩⟩
  refine b_X8_init_4.go C ⟨200, rfl, by decide, lb rfl, lb rfl, fun q1 h1 => ?_⟩
  have H1 := H0.nw h1 19 0 (oar 5 200 (fun _ => none))
  refine ⟨_, H1.at 0 0 (by simp) rfl rfl, 12, rfl, by decide, lb rfl, lb rfl, fun q2 h2 => ?_⟩
  have H2 := (H1.pt (a := a) 0 0 (by simp) rfl (kc (some q1) none none none none none none 0 0 0 0 0)).nw h2 20 0 (oar 3 12 (fun _ => none))
  refine ⟨_, H2.at 0 0 (by simp) rfl rfl, lb rfl, lb rfl, fun q3 h3 => ⟨trivial, ?_⟩⟩
  have H3 := (H2.pt (a := a) 0 0 (by simp) rfl (kc (some q1) (some q2) none none none none none 0 0 0 0 0)).nw h3 9 0 (.inr (0, [.inl 0, .inr (.inr none), .inl 0]))
  refine k_X8_init_28.go C X (c_ALinit (d + 1) _ q3 0 none up_eq) (rest := [.inr (.inr (some q3)), .inr (.inr (some a))]) rfl rfl rfl (fun _ => ⟨q3, 0, _, rfl, up_eq, by decide⟩) (lb rfl) (Rq.of (by omega) (by decide) (lb rfl) (lb rfl)) ?_
  rintro r G3 ⟨rfl, rfl⟩
  have H4 := H3.pt (a := q3) 9 0 (by simp) rfl (alC (nI 0) (Y.2.2 0) 0)
  refine b_X8_init_31.go C ⟨_, H4.at 0 0 (by simp) rfl rfl, lb rfl, lb rfl, fun q4 h4 => ⟨trivial, ?_⟩⟩
  have H5 := (H4.pt (a := a) 0 0 (by simp) rfl (kc (some q1) (some q2) (some q3) none none none none 0 0 0 0 0)).nw h4 9 13 (.inr (0, [.inl 0, .inr (.inr none), .inl 0]))
  refine k_X8_init_39.go C X (c_ALinit (d + 1) _ q4 0 none up_eq) (rest := [.inr (.inr (some q4)), .inr (.inr (some a))]) rfl rfl rfl (fun _ => ⟨q4, 0, _, rfl, up_eq, by decide⟩) (lb rfl) (Rq.of (by omega) (by decide) (lb rfl) (lb rfl)) ?_
  rintro r G4 ⟨rfl, rfl⟩
  have H6 := H5.pt (a := q4) 9 13 (by simp) rfl (alC (nI 0) (Y.2.2 0) 0)
  refine b_X8_init_42.go C ⟨_, H6.at 0 0 (by simp) rfl rfl, lb rfl, lb rfl, fun q5 h5 => ⟨trivial, ?_⟩⟩
  have H7 := (H6.pt (a := a) 0 0 (by simp) rfl (kc (some q1) (some q2) (some q3) (some q4) none none none 0 0 0 0 0)).nw h5 11 0 (.inr (5, [.inr (.inr none), .inr (.inr none), .inr (.inr none), .inl 0]))
  refine k_X8_init_50.go C X (c_Plan (d + 3) _ q5 up_eq) (rest := [.inr (.inr (some q5)), .inr (.inr (some a))]) rfl rfl rfl (fun _ => ⟨q5, 5, _, rfl, up_eq, by decide⟩) (lb rfl) (Rq.of (by omega) (by decide) (lb rfl) (lb rfl)) ?_
  rintro r G5 ⟨rfl, q6, q7, q8, h6, h7, h8, n67, n68, n78, rfl⟩
  have H8 := (((H7.nw h6 12 0 (.inl (0, 64, .inl (fun _ => 0)))).nw ((up_ne (Ne.symm n67)).trans h7) 13 0 (.inl (0, 64, .inl (fun _ => 0)))).nw ((up_ne (Ne.symm n78)).trans ((up_ne (Ne.symm n68)).trans h8)) 14 0 (.inl (0, 64, .inl (fun _ => 0)))).pt (a := q5) 11 0 (by simp) rfl (.inr (5, [.inr (.inr (some q6)), .inr (.inr (some q7)), .inr (.inr (some q8)), .inl (nI 0)]))
  refine b_X8_init_53.go C ⟨_, H8.at 0 0 (by simp) rfl rfl, lb rfl, lb rfl, fun q9 h9 => ⟨trivial, ?_⟩⟩
  have H9 := (H8.pt (a := a) 0 0 (by simp) rfl (kc (some q1) (some q2) (some q3) (some q4) (some q5) none none 0 0 0 0 0)).nw h9 15 0 (.inr (1, [.inr (.inr none)]))
  refine k_X8_init_61.go C X (c_Agenda (d + 3) _ q9 none up_eq) (rest := [.inr (.inr (some q9)), .inr (.inr (some a))]) rfl rfl rfl (fun _ => ⟨q9, 1, _, rfl, up_eq, by decide⟩) (lb rfl) (Rq.of (by omega) (by decide) (lb rfl) (lb rfl)) ?_
  rintro r G6 ⟨rfl, q10, h10, rfl⟩
  have H10 := (H9.nw h10 16 0 (.inl (1, 157, .inr (.inl (fun _ => 0))))).pt (a := q9) 15 0 (by simp) rfl (.inr (1, [.inr (.inr (some q10))]))
  refine b_X8_init_64.go C ⟨_, H10.at 0 0 (by simp) rfl rfl, lb rfl, lb rfl, fun q11 h11 => ⟨trivial, ?_⟩⟩
  have H11 := (H10.pt (a := a) 0 0 (by simp) rfl (kc (some q1) (some q2) (some q3) (some q4) (some q5) (some q9) none 0 0 0 0 0)).nw h11 17 0 (.inr (4, [.inr (.inr none), .inl 0]))
  refine k_X8_init_72.go C X (c_Journal (d + 3) _ q11 none 0 up_eq) (rest := [.inr (.inr (some q11)), .inr (.inr (some a))]) rfl rfl rfl (fun _ => ⟨q11, 4, _, rfl, up_eq, by decide⟩) (lb rfl) (Rq.of (by omega) (by decide) (lb rfl) (lb rfl)) ?_
  rintro r G7 ⟨rfl, q12, h12, rfl⟩
  have H12 := (H11.nw h12 18 0 (.inl (0, 192, .inl (fun _ => 0)))).pt (a := q11) 17 0 (by simp) rfl (.inr (4, [.inr (.inr (some q12)), .inl (nI 0)]))
  refine b_X8_init_75.go C ⟨_, H12.at 0 0 (by simp) rfl rfl, _, up_eq, _, up_eq, _, up_eq, _, up_eq, _, up_eq, trivial, ?_⟩
  have H13 := ((((((H12.pt (a := a) 0 0 (by simp) rfl (kc (some q1) (some q2) (some q3) (some q4) (some q5) (some q9) (some q11) 0 0 0 0 0)).pt (a := a) 0 0 (by simp) rfl (kc (some q1) (some q2) (some q3) (some q4) (some q5) (some q9) (some q11) (nI 0) 0 0 0 0)).pt (a := a) 0 0 (by simp) rfl (kc (some q1) (some q2) (some q3) (some q4) (some q5) (some q9) (some q11) (nI 0) (nI 1) 0 0 0)).pt (a := a) 0 0 (by simp) rfl (kc (some q1) (some q2) (some q3) (some q4) (some q5) (some q9) (some q11) (nI 0) (nI 1) (nI 0) 0 0)).pt (a := a) 0 0 (by simp) rfl (kc (some q1) (some q2) (some q3) (some q4) (some q5) (some q9) (some q11) (nI 0) (nI 1) (nI 0) (nI 0) 0)).pt (a := a) 0 0 (by simp) rfl (kc (some q1) (some q2) (some q3) (some q4) (some q5) (some q9) (some q11) (nI 0) (nI 1) (nI 0) (nI 0) (nI 0)))
  refine (show ∀ (q j : Nat) (G1 : GH) (A : AS), j + q = 12 → HS (SB j) A (cJ Y A j) G1 → A 0 0 = a → V p l e (RM (d + 5) 36 850) s m args below meth c Y (GA G s.heap.size) (QM below args s (RM (d + 5) 36 850) Y G (fun r G' => r = none ∧ ∃ A, KR Y G' A 0 0 K0 L0 ∧ A 0 0 = a)) 105 G1 (12 + 2 * j) (766 + 7 * j) [some (.inr (.inr (some a))), some (.inl (nI j))] [] from ?_) 12 0 _ _ rfl (HS.cg (HS.sb H13 ?_) ?_) ?_
  · intro q
    induction q with
    | zero =>
      intro j G1 A hj hH hA
      obtain rfl : j = 12 := by omega
      have h20 : G1 (A 20 0) = some (oar 3 12 (fun x => if x < 12 then some (A 8 (x + 1)) else none)) := hH.at 20 0 (by unfold SB; omega) rfl cJ_20
      have hk0 : G1 a = some (.inr (8, mnL A K0)) := hH.at 0 0 (by unfold SB; omega) hA rfl
      refine b_X8_init_105.go C ⟨_, hk0, 12, Or.inl ⟨3, _, by decide, h20⟩, fun _ => ⟨trivial, ?_⟩, fun h => absurd (Int32.le_refl _) h⟩
      refine V.ar (f' := fun x => some (A 8 (x + 1))) h20 (fun x hx => if_pos hx) ?_
      have H14 := hH.pt 20 0 (by unfold SB; omega) rfl (oar 3 12 (fun x => some (A 8 (x + 1))))
      refine V_vret C X d_X8_init_136 (lb rfl) (lb rfl) ⟨rfl, A, HS.KR (HS.cg H14 (fun k i hk => ?_)), hA⟩
      by_cases z : k = 20 ∧ i = 0
      · obtain ⟨rfl, rfl⟩ := z
        rw [uC_s]; rfl
      · rw [uC_n z]
        refine cJ_n (fun w => z ⟨w, ?_⟩)
        unfold SB at hk; omega
    | succ q ih =>
      intro j G1 A hj hH hA
      have h20 : G1 (A 20 0) = some (oar 3 12 (fun x => if x < j then some (A 8 (x + 1)) else none)) := hH.at 20 0 (by unfold SB; omega) rfl cJ_20
      have hk0 : G1 a = some (.inr (8, mnL A K0)) := hH.at 0 0 (by unfold SB; omega) hA rfl
      refine b_X8_init_105.go C ⟨_, hk0, 12, Or.inl ⟨3, _, by decide, h20⟩, fun h => absurd ((nI_leI (by omega) (by omega)).mp h) (by omega), fun _ => ⟨trivial, ?_⟩⟩
      refine b_X8_init_114.go C ⟨_, hk0, by show _ ≤ 36; omega, by show _ ≤ 850; omega, fun qc hqc => ⟨nI (j + 1), nI_1 _, trivial, ?_⟩⟩
      refine k_X8_init_126.go C X (c_Cook d _ qc (nI (j + 1)) up_eq) (rest := [.inr (.inr (some qc)), .inl (nI j), .inr (.inr (some (A 20 0)))]) rfl rfl rfl (fun _ => ⟨qc, 2, _, rfl, up_eq, by decide⟩) (lb rfl) (Rq.of (by omega) (by decide) (by show _ ≤ 36; omega) (by show _ ≤ 850; omega)) ?_
      rintro r G8 ⟨rfl, ql, hql, rfl⟩
      have hcl : qc ≠ ql := ne_none up_eq hql
      have I1 := (hH.nw hqc 8 (j + 1) (.inr (2, [.inl 0, .inr (.inr none), .inl 0, .inl 0]))).nw hql 9 (j + 1) (alC (nI 0) (Y.2.2 0) 0)
      have I2 := I1.pt (a := qc) 8 (j + 1) (by simp) (by rw [uA_n (by omega), uA_s]) (.inr (2, [.inl (nI (j + 1)), .inr (.inr (some ql)), .inl (nI 0), .inl (nI 0)]))
      have e20 : uA (uA A 8 (j + 1) qc) 9 (j + 1) ql 20 0 = A 20 0 := by rw [uA_n (by omega), uA_n (by omega)]
      have h20' := I2.at 20 0 (Or.inl (Or.inl (by unfold SB; omega))) e20 ((uC_n (by omega)).trans ((uC_n (by omega)).trans ((uC_n (by omega)).trans cJ_20)))
      refine b_X8_init_129.go C ⟨fun b hb => ⟨2, _, by cases hb; exact up_eq, by decide⟩, _, _, h20', j, rfl, by omega, by decide, nI (j + 1), nI_1 _, trivial, ?_⟩
      have I3 := I2.pt (a := A 20 0) 20 0 (Or.inl (Or.inl (by unfold SB; omega))) e20 (.inl (3, 12, .inr (.inr (.inr (.inr (va_up (fun x => if x < j then some (A 8 (x + 1)) else none) j (some qc)))))))
      have I4 := HS.cg (HS.sb I3 (S' := SB (j + 1)) (fun k i hk => by unfold SB at hk ⊢; omega)) (fun k i hk => cJ_step (Y := Y) (q := qc) (q' := ql) (by omega) k i hk)
      have hr := ih (j + 1) _ _ (by omega) I4 (by rw [uA_n (by omega), uA_n (by omega)]; exact hA)
      rw [show 12 + 2 * (j + 1) = 12 + 2 * j + 1 + 1 from by omega, show 766 + 7 * (j + 1) = 766 + 7 * j + 4 + 3 from by omega] at hr
      exact hr
  · intro k i hk
    replace hk := SB0 hk
    rcases hk with ⟨rfl, rfl⟩ | ⟨rfl, rfl⟩ | ⟨rfl, rfl⟩ | ⟨rfl, rfl⟩ | ⟨rfl, rfl⟩ | ⟨rfl, rfl⟩ | ⟨rfl, rfl⟩ | ⟨rfl, rfl⟩ | ⟨rfl, rfl⟩ | ⟨rfl, rfl⟩ | ⟨rfl, rfl⟩ | ⟨rfl, rfl⟩ | ⟨rfl, rfl⟩ <;> simp
  · intro k i hk
    replace hk := SB0 hk
    rcases hk with ⟨rfl, rfl⟩ | ⟨rfl, rfl⟩ | ⟨rfl, rfl⟩ | ⟨rfl, rfl⟩ | ⟨rfl, rfl⟩ | ⟨rfl, rfl⟩ | ⟨rfl, rfl⟩ | ⟨rfl, rfl⟩ | ⟨rfl, rfl⟩ | ⟨rfl, rfl⟩ | ⟨rfl, rfl⟩ | ⟨rfl, rfl⟩ | ⟨rfl, rfl⟩ <;> rfl
  · rfl
end CR
