/-! the reference: leave and mark -/
section REFD
variable {l : Launch} {Y : YT}
/-- the pile of cook c without s: from place k on, n kept so far -/
def levF (c s : Nat) : Nat → Nat → Nat → MS → MS × Nat
  | 0, _, n, M => (M, n)
  | q + 1, k, n, M => if M 46 (201 * c + k) = nI s then levF c s q (k + 1) n M else levF c s q (k + 1) (n + 1) (up2 M 46 (201 * c + n) (M 46 (201 * c + k)))
/-- numbers of M, as naturals -/
def nN (M : MS) (f i : Nat) : Nat := (M f i).toNatClampNeg
def levM (M : MS) (s : Nat) : MS := up2 (levF (nN M 25 s) s (nN M 47 (nN M 25 s)) 0 0 M).1 47 (nN M 25 s) (nI (levF (nN M 25 s) s (nN M 47 (nN M 25 s)) 0 0 M).2)
theorem nN_of {M : MS} {f i k : Nat} (h : M f i = nI k) (hk : k < 2 ^ 31) : nN M f i = k := by rw [nN, h, nI_clamp hk]
theorem levF_o (c s : Nat) : ∀ (q k n : Nat) (M : MS) (f : Nat), f ≠ 46 → (levF c s q k n M).1 f = M f
  | 0, _, _, _, _, _ => rfl
  | q + 1, k, n, M, f, hf => by
    rw [levF]
    split
    · exact levF_o c s q (k + 1) n M f hf
    · rw [levF_o c s q (k + 1) (n + 1) _ f hf, up2_f hf]
theorem r_leave (d : Nat) (G : GH) (x : Nat) (ra : Nat → Nat) (M : MS) (t c0 q0 : Nat) (hR : RR G x ra M) (ht : t ≤ 200) (hc : M 25 t = nI c0) (hc2 : c0 ≤ 12) (hq : M 47 c0 = nI q0) (hq2 : q0 ≤ 200) : Cd l yX9_leave cX9_leave 6 none d 0 0 Y [.inr (.inr (some x)), .inl (nI t)] G (fun r G' => r = none ∧ RR G' x ra (levM M t)) := by
  refine Ct.of (ini := False) (by decide +kernel) False.elim rfl (Nat.le_of_ble_eq_true rfl) ?_
  intro p e s m args below meth c C X
  have ec : nN M 25 t = c0 := nN_of hc (by omega)
  have eq : nN M 47 c0 = q0 := nN_of hq (by omega)
  have hlc : c0 < 13 := by omega
  refine b_X9_leave_0.go C ⟨_, hR.1, _, _, hR.2.1 25 (by decide) rfl, t, rfl, by show t < 201; omega, lb rfl, _, hc, trivial, ?_⟩
  refine (show ∀ (q k n : Nat) (G1 : GH) (M1 : MS) (o : Option AV), k + q = q0 → n ≤ k → RR G1 x ra M1 → (∀ f, f ≠ 46 → M1 f = M f) → levF c0 t q0 0 0 M = levF c0 t q k n M1 → V p l e _ s m args below meth c Y _ _ 12 G1 0 0 [some (.inr (.inr (some x))), some (.inl (nI t)), some (.inl (nI c0)), some (.inl (nI n)), some (.inl (nI k)), o] [] from ?_) q0 0 0 G M none (by omega) (Nat.le_refl 0) hR (fun _ _ => rfl) rfl
  intro q
  induction q with
  | zero =>
    intro k n G1 M1 o hk hnk R1 hM hl
    have h47 : M1 47 c0 = nI q0 := by rw [hM 47 (by decide)]; exact hq
    refine b_X9_leave_12.go C ⟨_, R1.1, _, _, R1.2.1 47 (by decide) rfl, c0, rfl, hlc, lb rfl, _, h47, fun h1 => ⟨trivial, ?_⟩, fun h1 => absurd (nI_le (by omega) (by omega)) h1⟩
    refine b_X9_leave_67.go C ⟨_, R1.1, _, _, R1.2.1 47 (by decide) rfl, c0, rfl, hlc, lb rfl, trivial, ?_⟩
    refine V_vret C X d_X9_leave_74 (Nat.zero_le _) (Nat.zero_le _) ⟨rfl, ?_⟩
    rw [levM, ec, eq, hl, levF]
    exact R1.st 47 c0 (nI n) (by decide) rfl
  | succ q ih =>
    intro k n G1 M1 o hk hnk R1 hM hl
    have h47 : M1 47 c0 = nI q0 := by rw [hM 47 (by decide)]; exact hq
    have hb1 : 201 * c0 + k < 2613 := by omega
    have hb2 : 201 * c0 + n < 2613 := by omega
    refine b_X9_leave_12.go C ⟨_, R1.1, _, _, R1.2.1 47 (by decide) rfl, c0, rfl, hlc, lb rfl, _, h47, fun h1 => absurd ((nI_leI (by omega) (by omega)).mp h1) (by omega), fun h1 => ⟨trivial, ?_⟩⟩
    refine b_X9_leave_23.go C ⟨_, R1.1, _, pk_mul 201 c0, _, nI_add _ _, _, _, R1.2.1 46 (by decide) rfl, 201 * c0 + k, rfl, hb1, lb rfl, _, rfl, fun h2 => ⟨trivial, ?_⟩, fun h2 => ⟨trivial, ?_⟩⟩
    · refine b_X9_leave_61.go C ⟨_, nI_1 k, trivial, ?_⟩
      exact ih (k + 1) n G1 M1 _ (by omega) (by omega) R1 hM (by rw [hl, levF, if_pos h2])
    · have R2 := R1.st 46 (201 * c0 + n) (M1 46 (201 * c0 + k)) (by decide) rfl
      refine b_X9_leave_44.go C ⟨_, R1.1, _, pk_mul 201 c0, _, nI_add _ _, _, _, R1.2.1 46 (by decide) rfl, 201 * c0 + n, rfl, hb2, lb rfl, _, nI_1 n, trivial, ?_⟩
      refine b_X9_leave_61.go C ⟨_, nI_1 k, trivial, ?_⟩
      exact ih (k + 1) (n + 1) _ _ _ (by omega) (by omega) R2 (fun f hf => by rw [up2_f hf]; exact hM f hf) (by rw [hl, levF, if_neg h2])
/-- an end is noted: how 1 value, 2 failed, 3 called off -/
def markA (M : MS) (s : Nat) (how : Int32) : MS := noteM (up2 (up2 (up2 (up2 (up2 M 8 s how) 9 s (M 0 0)) 16 0 (nI (nN M 16 0 + 1))) 10 s (nI (nN M 16 0 + 1))) 15 (nN M 16 0 + 1) (nI s)) (nN M 53 0) (nI s) (how + nI 1)
/-- a cook has it -/
def atC (M : MS) (s : Nat) : Bool := decide (nI 9 ≤ M 2 s ∧ (M 19 s = nI 2 ∨ M 19 s = nI 3))

def markM (M : MS) (s : Nat) (how : Int32) : MS := if atC M s then levM (up2 (markA M s how) 26 s (bI (decide (how = nI 3)))) s else markA M s how
end REFD
