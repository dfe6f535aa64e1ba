/-! the reference: tree, failure -/
section REFX
variable {l : Launch} {Y : YT}
def sumN (f : Nat → Nat) : Nat → Nat
  | 0 => 0
  | n + 1 => sumN f n + f n
theorem sumN_congr {f g : Nat → Nat} : ∀ {n : Nat}, (∀ j, j < n → f j = g j) → sumN f n = sumN g n
  | 0, _ => rfl
  | n + 1, h => by rw [sumN, sumN, sumN_congr (fun j hj => h j (by omega)), h n (by omega)]
theorem sumN_one {f g : Nat → Nat} {i : Nat} : ∀ {n : Nat}, i < n → (∀ j, j < n → j ≠ i → f j = g j) → sumN f n + g i = sumN g n + f i
  | 0, h, _ => absurd h (Nat.not_lt_zero _)
  | n + 1, h, hj => by
    rw [sumN, sumN]
    by_cases e : i = n
    · subst e
      rw [sumN_congr (fun j h2 => hj j (by omega) (by omega))]
      omega
    · have ih := sumN_one (f := f) (g := g) (i := i) (n := n) (by omega) (fun j h2 h3 => hj j (by omega) h3)
      have := hj n (by omega) (fun q => e q.symm)
      omega
theorem sumN_le {f g : Nat → Nat} : ∀ {n : Nat}, (∀ j, j < n → f j ≤ g j) → sumN f n ≤ sumN g n
  | 0, _ => Nat.le_refl _
  | n + 1, h => by
    rw [sumN, sumN]
    have h1 := sumN_le (f := f) (g := g) (n := n) (fun j hj => h j (by omega))
    have h2 := h n (by omega)
    omega
theorem sumN_one_c : ∀ n : Nat, sumN (fun _ => 1) n = n
  | 0 => rfl
  | n + 1 => by rw [sumN, sumN_one_c n]
/-- the failures 0 .. F - 1 and what they hold -/
def TrP (M : MS) (F : Nat) : Prop := F ≤ 2000 ∧ M 38 0 = nI F ∧ (∀ g, g < F → M 37 g = nI (nN M 37 g) ∧ nN M 37 g ≤ 24 ∧ M 36 g = nI (nN M 36 g) ∧ nN M 36 g + nN M 37 g ≤ 8000 ∧ (∀ k, k < nN M 37 g → ∃ h, h < F ∧ M 39 (nN M 36 g + k) = nI h) ∧ (M 35 g = -1 ∨ ∃ h, h < F ∧ M 35 g = nI h)) ∧ sumN (fun g => nN M 37 g + 1) F ≤ 11000
theorem TrP.up {M : MS} {F : Nat} (h : TrP M F) (z : Int32) : TrP (up2 M 54 0 z) F := by
  unfold TrP nN at *
  rw [up2_f (f := 38) (by decide), up2_f (f := 37) (by decide), up2_f (f := 36) (by decide), up2_f (f := 39) (by decide), up2_f (f := 35) (by decide)]
  exact h
/-- the rows of the suppressed ones of g (they begin at a), from the last on -/
def tpF (a : Nat) (w : Int32) : Nat → MS → MS
  | 0, M => M
  | k + 1, M => tpF a w k (opnM M (nN M 64 0) (M 39 (a + k)) w (nI 2))
def trV (M : MS) (o r g : Nat) : MS := up2 (up2 (up2 (up2 (up2 (up2 M 64 0 (nI o)) 65 g (nI 1)) 57 r (nI g)) 58 r (M 62 o)) 59 r (M 63 o)) 60 0 (nI (r + 1))
def trQ (M : MS) (o r g : Nat) : MS := tpF (nN M 36 g) (nI r) (nN M 37 g) (trV M o r g)
def trS (M : MS) (o r g : Nat) : MS := if M 35 g = -1 then trQ M o r g else opnM (trQ M o r g) (nN (trQ M o r g) 64 0) (M 35 g) (nI r) (nI 1)
def trF : Nat → MS → MS
  | 0, M => M
  | q + 1, M => if nN M 64 0 = 0 then M else if M 65 (nN M 61 (nN M 64 0 - 1)) = 0 then trF q (trS M (nN M 64 0 - 1) (nN M 60 0) (nN M 61 (nN M 64 0 - 1))) else trF q (up2 M 64 0 (nI (nN M 64 0 - 1)))
def clF : Nat → Nat → MS → MS
  | 0, _, M => M
  | q + 1, k, M => clF q (k + 1) (up2 M 65 k (nI 0))
def treA (M : MS) (F : Nat) (f : Int32) : MS := opnM (up2 (up2 (clF F 0 M) 60 0 (nI 0)) 64 0 (nI 0)) 0 f (-4) (nI 0)
/-- Q: how many steps are enough (kept open, so that nothing counts them) -/
def treM (Q : Nat) (M : MS) (F : Nat) (f : Int32) : MS := trF Q (treA M F f)
theorem clF_o : ∀ (q k : Nat) (M : MS) (f : Nat), f ≠ 65 → clF q k M f = M f
  | 0, _, _, _, _ => rfl
  | q + 1, k, M, f, h => by rw [clF, clF_o q (k + 1) _ f h, up2_f h]
theorem clF_z : ∀ (q k : Nat) (M : MS) (g : Nat), (g < k → M 65 g = 0) → g < k + q → clF q k M 65 g = 0
  | 0, k, M, g, h, hg => h (by omega)
  | q + 1, k, M, g, h, hg => by
    rw [clF]
    refine clF_z q (k + 1) _ g (fun h2 => ?_) (by omega)
    by_cases e : g = k
    · subst e; rw [up2_s]; exact nI_0
    · rw [up2_i e]; exact h (by omega)
/-- what the walk over the tree keeps -/
def TrI (M M1 : MS) (F o r : Nat) : Prop := (∀ f, f < 57 → M1 f = M f) ∧ M1 64 0 = nI o ∧ M1 60 0 = nI r ∧ (∀ k, k < o → ∃ h, h < F ∧ M1 61 k = nI h) ∧ (∀ k, k < r → ∃ h, h < F ∧ M1 57 k = nI h) ∧ r + sumN (fun g => if M1 65 g = 0 then 1 else 0) F = F ∧ o + sumN (fun g => if M1 65 g = 0 then nN M 37 g + 1 else 0) F ≤ 11001
theorem opn_i {M M1 : MS} {F o r : Nat} (h : TrI M M1 F o r) (f up ro : Int32) (hf : ∃ j, j < F ∧ f = nI j) (hb : o + 1 + sumN (fun g => if M1 65 g = 0 then nN M 37 g + 1 else 0) F ≤ 11001) : TrI M (opnM M1 o f up ro) F (o + 1) r := by
  obtain ⟨h1, h2, h3, h4, h5, h6, h7⟩ := h
  have e65 : opnM M1 o f up ro 65 = M1 65 := by unfold opnM; rw [up2_f (by decide), up2_f (by decide), up2_f (by decide), up2_f (by decide)]
  refine ⟨fun q hq => ?_, up2_s _ _ _ _, ?_, fun k hk => ?_, fun k hk => ?_, ?_, ?_⟩
  · unfold opnM; rw [up2_f (by omega), up2_f (by omega), up2_f (by omega), up2_f (by omega)]; exact h1 q hq
  · exact h3
  · have e61 : opnM M1 o f up ro 61 = up2 M1 61 o f 61 := by unfold opnM; rw [up2_f (by decide), up2_f (by decide), up2_f (by decide)]
    rw [e61]
    by_cases e : k = o
    · subst e; rw [up2_s]; exact hf
    · rw [up2_i e]; exact h4 k (by omega)
  · exact h5 k hk
  · rw [e65]; exact h6
  · rw [e65]; exact hb
theorem zm {z : Int32} {k : Nat} (h : z + nI 1 = nI k) : (k = 0 → z = -1) ∧ ∀ j, k = j + 1 → z = nI j := by
  have e : z = nI k - nI 1 := by rw [← h, Int32.add_sub_cancel]
  exact ⟨fun q => by rw [e, q]; decide +kernel, fun j q => by rw [e, q, pk_sub (by omega)]; rfl⟩
set_option maxHeartbeats 4000000 in
theorem r_tree (d : Nat) (G : GH) (x : Nat) (ra : Nat → Nat) (M : MS) (Q F f0 : Nat) (hQ : 14000 ≤ Q) (hR : RR G x ra M) (hT : TrP M F) (hf0 : f0 < F) : Cd l yX9_tree cX9_tree 4 none (d + 1) 0 0 Y [.inr (.inr (some x)), .inl (nI f0)] G (fun r G' => r = none ∧ RR G' x ra (treM Q M F (nI f0)) ∧ ∃ o r', r' ≤ F ∧ TrI M (treM Q M F (nI f0)) F o r') := by
  refine Ct.of (ini := False) (by decide +kernel) False.elim rfl (Nat.le_of_ble_eq_true rfl) ?_
  intro p e s m args below meth c C X
  obtain ⟨hF, h38, hg, hsum⟩ := hT
  refine b_X9_tree_0.go C ⟨trivial, ?_⟩
  refine (show ∀ (q k : Nat) (G1 : GH) (M1 : MS), k + q = F → RR G1 x ra M1 → M1 38 = M 38 → clF F 0 M = clF q k M1 → V p l e (RM (d + 1) 0 0) s m args below meth c Y (GA G s.heap.size) (QM below args s (RM (d + 1) 0 0) Y G (fun r G' => r = none ∧ RR G' x ra (treM Q M F (nI f0)) ∧ ∃ o r', r' ≤ F ∧ TrI M (treM Q M F (nI f0)) F o r')) 2 G1 0 0 [some (.inr (.inr (some x))), some (.inl (nI f0)), some (.inl (nI k)), none] [] from ?_) F 0 G M (by omega) hR rfl rfl
  intro q
  induction q with
  | succ q ih =>
    intro k G1 M1 hk R1 h38' hs
    have h38a : M1 38 0 = nI F := by rw [h38']; exact h38
    refine b_X9_tree_2.go C ⟨_, R1.1, fun h => absurd (show F ≤ k from (nI_leI (by omega) (by omega)).mp (by have h9 : (M1 38 0) ≤ (nI k) := h; rw [h38a] at h9; exact h9)) (by omega), fun h2 => ⟨trivial, ?_⟩⟩
    have R1_ := R1.st 65 k (nI 0) (by decide) rfl
    refine b_X9_tree_10.go C ⟨_, R1.1, z0, _, _, R1.2.1 65 (by decide) rfl, k, rfl, by show k < 2000; omega, lb rfl, _, nI_1 _, trivial, ?_⟩
    exact ih (k + 1) _ _ (by omega) R1_ (by rw [up2_f (by decide)]; exact h38') (by rw [hs, clF])
  | zero =>
    intro k G1 M1 hk R1 h38' hs
    have h38a : M1 38 0 = nI F := by rw [h38']; exact h38
    refine b_X9_tree_2.go C ⟨_, R1.1, fun h2 => ⟨trivial, ?_⟩, fun h => absurd (show (M1 38 0) ≤ (nI k) by rw [h38a]; exact nI_le (by omega) (by omega)) h⟩
    have eM : clF F 0 M = M1 := by rw [hs, clF]
    have R2_ := R1.s60 (nI 0)
    have R3_ := R2_.s64 (nI 0)
    refine b_X9_tree_23.go C ⟨_, R1.1, _, R2_.1, trivial, ?_⟩
    refine k_X9_tree_38.go C X (r_open d _ x ra _ 0 (nI f0) (-4) (nI 0) R3_ (up2_s _ _ _ _) (by omega)) (rest := []) rfl rfl rfl (fun _ => ⟨x, 9, _, rfl, R3_.1, by decide⟩) (lb rfl) (Rq.of (by omega) (by decide) (Nat.le_refl _) (Nat.le_refl _)) ?_
    rintro r G2 ⟨rfl, R2⟩
    have R3 : RR G2 x ra (treA M F (nI f0)) := by rw [treA, eM]; exact R2
    have b65 : ∀ g, g < F → treA M F (nI f0) 65 g = 0 := by
      intro g hg2
      have e65 : treA M F (nI f0) 65 = clF F 0 M 65 := by unfold treA opnM; rw [up2_f (by decide), up2_f (by decide), up2_f (by decide), up2_f (by decide), up2_f (by decide), up2_f (by decide)]
      rw [e65]
      exact clF_z F 0 M g (by omega) (by omega)
    have I3 : TrI M (treA M F (nI f0)) F 1 0 := by
      have s1 : sumN (fun g => if treA M F (nI f0) 65 g = 0 then 1 else 0) F = F := by
        rw [sumN_congr (g := fun _ => 1) (fun j hj => if_pos (b65 j hj)), sumN_one_c]
      have s2 : sumN (fun g => if treA M F (nI f0) 65 g = 0 then nN M 37 g + 1 else 0) F = sumN (fun g => nN M 37 g + 1) F := sumN_congr (fun j hj => if_pos (b65 j hj))
      refine ⟨fun q hq => ?_, by unfold treA opnM; exact up2_s _ _ _ _, ?_, fun k hk => ?_, fun k hk => absurd hk (Nat.not_lt_zero _), by rw [s1]; omega, by rw [s2]; omega⟩
      · unfold treA opnM; rw [up2_f (by omega), up2_f (by omega), up2_f (by omega), up2_f (by omega), up2_f (by omega), up2_f (by omega), clF_o _ _ _ _ (by omega)]
      · unfold treA opnM; rw [up2_f (by decide), up2_f (by decide), up2_f (by decide), up2_f (by decide), up2_f (by decide)]; exact up2_s _ _ _ _
      · obtain rfl : k = 0 := by omega
        exact ⟨f0, hf0, by unfold treA opnM; rw [up2_f (by decide), up2_f (by decide), up2_f (by decide)]; exact up2_s _ _ _ _⟩
    clear eM R2 hs h38a h38' R1
    refine (show ∀ (q : Nat) (G1 : GH) (M1 : MS) (o r : Nat) (o2 o3 : Option AV), o + sumN (fun g => if M1 65 g = 0 then nN M 37 g + 1 else 0) F + sumN (fun g => if M1 65 g = 0 then 1 else 0) F ≤ q → RR G1 x ra M1 → TrI M M1 F o r → treM Q M F (nI f0) = trF q M1 → V p l e (RM (d + 1) 0 0) s m args below meth c Y (GA G s.heap.size) (QM below args s (RM (d + 1) 0 0) Y G (fun r G' => r = none ∧ RR G' x ra (treM Q M F (nI f0)) ∧ ∃ o r', r' ≤ F ∧ TrI M (treM Q M F (nI f0)) F o r')) 41 G1 0 0 [some (.inr (.inr (some x))), some (.inl (nI f0)), o2, o3] [] from ?_) Q G2 _ 1 0 _ _ (by have := I3.2.2.2.2.2.1; have := I3.2.2.2.2.2.2; omega) R3 I3 rfl
    clear R3 I3 b65
    intro q
    induction q with
    | zero =>
      intro G1 M1 o r o2 o3 hq R1 I1 hs
      obtain rfl : o = 0 := by omega
      refine b_X9_tree_41.go C ⟨_, R1.1, fun h41 => ⟨trivial, ?_⟩, fun h => absurd (show (M1 64 0) ≤ 0 by rw [I1.2.1, nI_0.symm]; exact nI_le (by omega) (by omega)) h⟩
      exact V_vret C X d_X9_tree_213 (Nat.zero_le _) (Nat.zero_le _) ⟨rfl, by rw [hs, trF]; exact R1, 0, r, by have := I1.2.2.2.2.2.1; omega, by rw [hs, trF]; exact I1⟩
    | succ q ih =>
      intro G1 M1 o r o2 o3 hq R1 I1 hs
      obtain ⟨i1, i2, i3, i4, i5, i6, i7⟩ := id I1
      have e64 : nN M1 64 0 = o := nN_of i2 (by omega)
      have e60 : nN M1 60 0 = r := nN_of i3 (by omega)
      refine b_X9_tree_41.go C ⟨_, R1.1, fun h41 => ⟨trivial, ?_⟩, fun h41 => ⟨trivial, ?_⟩⟩
      · have h41a : o ≤ 0 := (nI_leI (by omega) (by omega)).mp (by have h9 : (M1 64 0 ≤ 0) := h41; rw [i2, nI_0.symm] at h9; exact h9)
        obtain rfl : o = 0 := by omega
        exact V_vret C X d_X9_tree_213 (Nat.zero_le _) (Nat.zero_le _) ⟨rfl, by rw [hs, trF, e64, if_pos rfl]; exact R1, 0, r, by omega, by rw [hs, trF, e64, if_pos rfl]; exact I1⟩
      have h41a : 0 < o := Nat.lt_of_not_le (fun q9 => absurd (nI_le q9 (by omega)) (by have h9 : ¬ (M1 64 0 ≤ 0) := h41; rw [i2, nI_0.symm] at h9; exact h9))
      obtain ⟨g, hgF, e61⟩ := i4 (o - 1) (by omega)
      have en61 : nN M1 61 (o - 1) = g := nN_of e61 (by omega)
      have R4_ := R1.s64 (nI (o - 1))
      refine b_X9_tree_48.go C ⟨_, R1.1, _, (congrArg (· - nI 1) i2).trans (pk_sub (by omega)), _, R1.1, _, R4_.1, _, R4_.1, _, _, R4_.2.1 61 (by decide) rfl, o - 1, rfl, by show o - 1 < 12000; omega, lb rfl, _, e61, _, R4_.1, _, _, R4_.2.1 65 (by decide) rfl, g, rfl, by show g < 2000; omega, lb rfl, _, rfl, fun h48 => ⟨trivial, ?_⟩, fun h48 => ⟨trivial, ?_⟩⟩
      · have h48 : ¬ M1 65 g = 0 := h48
        refine b_X9_tree_210.go C ⟨trivial, ?_⟩
        refine ih _ _ (o - 1) r _ _ (by rw [up2_f (by decide)]; omega) R4_ ⟨fun q hq => by rw [up2_f (by omega)]; exact i1 q hq, up2_s _ _ _ _, i3, fun k hk => i4 k (by omega), i5, i6, by rw [up2_f (by decide)]; omega⟩ (by rw [hs, trF, e64, if_neg (by omega), en61, if_neg h48])
      have h48 : M1 65 g = 0 := h48
      have e37 : M1 37 = M 37 := i1 37 (by decide)
      have e36 : M1 36 = M 36 := i1 36 (by decide)
      have e35 : M1 35 = M 35 := i1 35 (by decide)
      have e39 : M1 39 = M 39 := i1 39 (by decide)
      obtain ⟨g37, g24, g36, g8, gk, g35⟩ := hg g hgF
      have n37 : nN M1 37 g = nN M 37 g := by rw [nN, e37]; rfl
      have n36 : nN M1 36 g = nN M 36 g := by rw [nN, e36]; rfl
      have u65 : trV M1 (o - 1) r g 65 = up2 M1 65 g (nI 1) 65 := by unfold trV; rw [up2_f (by decide), up2_f (by decide), up2_f (by decide), up2_f (by decide)]; rfl
      have nz : ¬ (nI 1 : Int32) = 0 := by decide +kernel
      have su : ∀ (w : Nat → Nat), sumN (fun j => if trV M1 (o - 1) r g 65 j = 0 then w j else 0) F + w g = sumN (fun j => if M1 65 j = 0 then w j else 0) F := by
        intro w
        have := sumN_one (f := fun j => if trV M1 (o - 1) r g 65 j = 0 then w j else 0) (g := fun j => if M1 65 j = 0 then w j else 0) (i := g) (n := F) hgF (fun j _ hj => by simp only [u65, up2_i hj])
        simp only [u65, up2_s, if_neg nz, if_pos h48] at this ⊢
        omega
      have su1 := su (fun _ => 1)
      have su2 := su (fun j => nN M 37 j + 1)
      have hr : r < 2000 := by omega
      have R5_ := R4_.st 65 g (nI 1) (by decide) rfl
      have R6_ := R5_.st 57 r (nI g) (by decide) rfl
      have R7_ := R6_.st 58 r (M1 62 (o - 1)) (by decide) rfl
      refine b_X9_tree_77.go C ⟨_, R4_.1, z1, _, _, R4_.2.1 65 (by decide) rfl, g, rfl, by show g < 2000; omega, lb rfl, _, R5_.1, _, R5_.1, _, _, R5_.2.1 57 (by decide) rfl, r, i3, by show r < 2000; omega, lb rfl, _, R6_.1, _, R6_.1, _, R6_.1, _, R6_.1, _, _, R6_.2.1 62 (by decide) rfl, o - 1, rfl, by show o - 1 < 12000; omega, lb rfl, _, rfl, _, _, R6_.2.1 58 (by decide) rfl, r, i3, by show r < 2000; omega, lb rfl, _, R7_.1, trivial, ?_⟩
      have R8_ := R7_.st 59 r (M1 63 (o - 1)) (by decide) rfl
      have R9_ := R8_.s60 (nI (r + 1))
      refine b_X9_tree_117.go C ⟨_, R7_.1, _, R7_.1, _, R7_.1, _, _, R7_.2.1 63 (by decide) rfl, o - 1, rfl, by show o - 1 < 12000; omega, lb rfl, _, rfl, _, _, R7_.2.1 59 (by decide) rfl, r, i3, by show r < 2000; omega, lb rfl, _, R8_.1, _, (congrArg (· + nI 1) i3).trans (nI_1 r), _, R8_.1, _, R9_.1, _, _, R9_.2.1 37 (by decide) rfl, g, rfl, by show g < 2000; omega, lb rfl, _, (show M1 37 g = nI (nN M 37 g) by rw [e37]; exact g37), _, rfl, trivial, ?_⟩
      have I2 : TrI M (trV M1 (o - 1) r g) F (o - 1) (r + 1) := by
        refine ⟨fun q hq => by unfold trV; rw [up2_f (by omega), up2_f (by omega), up2_f (by omega), up2_f (by omega), up2_f (by omega), up2_f (by omega)]; exact i1 q hq, by unfold trV; rw [up2_f (by decide), up2_f (by decide), up2_f (by decide), up2_f (by decide), up2_f (by decide)]; exact up2_s _ _ _ _, up2_s _ _ _ _, fun k hk => i4 k (by omega), fun k hk => ?_, by omega, by omega⟩
        have e57 : trV M1 (o - 1) r g 57 = up2 M1 57 r (nI g) 57 := by unfold trV; rw [up2_f (by decide), up2_f (by decide), up2_f (by decide)]; rfl
        rw [e57]
        by_cases e : k = r
        · subst e; rw [up2_s]; exact ⟨g, hgF, rfl⟩
        · rw [up2_i e]; exact i5 k (by omega)
      have R2 : RR _ x ra (trV M1 (o - 1) r g) := R9_
      refine (show ∀ (k : Nat) (G2 : GH) (M2 : MS) (o' : Nat) (z : Int32), k ≤ nN M 37 g → z + nI 1 = nI k → RR G2 x ra M2 → TrI M M2 F o' (r + 1) → M2 65 = trV M1 (o - 1) r g 65 → o' + k + 1 + sumN (fun j => if M2 65 j = 0 then nN M 37 j + 1 else 0) F ≤ 11001 → o' + k + 1 ≤ o + nN M 37 g → trQ M1 (o - 1) r g = tpF (nN M 36 g) (nI r) k M2 → V p l e (RM (d + 1) 0 0) s m args below meth c Y (GA G s.heap.size) (QM below args s (RM (d + 1) 0 0) Y G (fun r G' => r = none ∧ RR G' x ra (treM Q M F (nI f0)) ∧ ∃ o r', r' ≤ F ∧ TrI M (treM Q M F (nI f0)) F o r')) 149 G2 0 0 [some (.inr (.inr (some x))), some (.inl (nI f0)), some (.inl (nI g)), some (.inl z)] [] from ?_) (nN M 37 g) _ _ (o - 1) _ (Nat.le_refl _) (Int32.sub_add_cancel _ _) R2 I2 rfl (by omega) (by omega) (by rw [trQ, n36, n37])
      clear R2 I2
      intro k
      induction k with
      | zero =>
        intro G2 M2 o' z hk hz R2 I2 e65 hb hb2 hs2
        obtain ⟨j1, j2, j3, j4, j5, j6, j7⟩ := id I2
        have ez : z = -1 := (zm hz).1 rfl
        refine b_X9_tree_149.go C ⟨fun h149 => ⟨trivial, ?_⟩, fun h => absurd (show z < 0 by rw [ez]; decide +kernel) h⟩
        have f35 : M2 35 g = M 35 g := by rw [j1 35 (by decide)]
        refine b_X9_tree_183.go C ⟨_, R2.1, _, _, R2.2.1 35 (by decide) rfl, g, rfl, by show g < 2000; omega, lb rfl, _, f35, fun h183 => ⟨trivial, ?_⟩, fun h183 => ⟨trivial, ?_⟩⟩
        · refine b_X9_tree_210.go C ⟨trivial, ?_⟩
          have e2 : trS M1 (o - 1) r g = M2 := by rw [trS, e35, if_pos h183, hs2, tpF]
          exact ih _ _ o' (r + 1) _ _ (by rw [e65] at hb ⊢; omega) R2 I2 (by rw [hs, trF, e64, if_neg (by omega), en61, if_pos h48, e60, e2])
        · refine b_X9_tree_193.go C ⟨_, R2.1, _, _, R2.2.1 35 (by decide) rfl, g, rfl, by show g < 2000; omega, lb rfl, _, f35, _, R2.1, _, (congrArg (· - nI 1) j3).trans (pk_sub (by omega)), trivial, ?_⟩
          obtain ⟨h, hh, eh⟩ := g35.resolve_left h183
          refine k_X9_tree_207.go C X (r_open d G2 x ra M2 o' (M 35 g) (nI r) (nI 1) R2 j2 (by omega)) (rest := []) rfl rfl rfl (fun _ => ⟨x, 9, _, rfl, R2.1, by decide⟩) (lb rfl) (Rq.of (by omega) (by decide) (Nat.le_refl _) (Nat.le_refl _)) ?_
          rintro r9 G3 ⟨rfl, R3⟩
          have e2 : trS M1 (o - 1) r g = opnM M2 o' (M 35 g) (nI r) (nI 1) := by rw [trS, e35, if_neg h183, hs2, tpF, nN_of j2 (by omega)]
          have I3 := opn_i I2 (M 35 g) (nI r) (nI 1) ⟨h, hh, eh⟩ (by omega)
          have e3 : opnM M2 o' (M 35 g) (nI r) (nI 1) 65 = M2 65 := by unfold opnM; rw [up2_f (by decide), up2_f (by decide), up2_f (by decide), up2_f (by decide)]
          refine b_X9_tree_210.go C ⟨trivial, ?_⟩
          exact ih _ _ (o' + 1) (r + 1) _ _ (by rw [e3, e65]; rw [e65] at hb; omega) R3 I3 (by rw [hs, trF, e64, if_neg (by omega), en61, if_pos h48, e60, e2])
      | succ k ihk =>
        intro G2 M2 o' z hk hz R2 I2 e65 hb hb2 hs2
        obtain ⟨j1, j2, j3, j4, j5, j6, j7⟩ := id I2
        obtain rfl : z = nI k := (zm hz).2 k rfl
        obtain ⟨h, hh, eh⟩ := gk k (by omega)
        refine b_X9_tree_149.go C ⟨fun h => absurd (show nI k < nI 0 from (by have h9 : (nI k) < 0 := h; rw [nI_0.symm] at h9; exact h9)) (nI_nlt (by omega) (by omega)), fun h149 => ⟨trivial, ?_⟩⟩
        refine b_X9_tree_153.go C ⟨_, R2.1, _, R2.1, _, _, R2.2.1 36 (by decide) rfl, g, rfl, by show g < 2000; omega, lb rfl, _, (by rw [j1 36 (by decide)]; exact g36), _, nI_add _ _, _, _, R2.2.1 39 (by decide) rfl, nN M 36 g + k, rfl, by show nN M 36 g + k < 8000; omega, lb rfl, _, (by rw [j1 39 (by decide)]), _, R2.1, _, (congrArg (· - nI 1) j3).trans (pk_sub (by omega)), trivial, ?_⟩
        refine k_X9_tree_174.go C X (r_open d G2 x ra M2 o' (M 39 (nN M 36 g + k)) (nI r) (nI 2) R2 j2 (by omega)) (rest := []) rfl rfl rfl (fun _ => ⟨x, 9, _, rfl, R2.1, by decide⟩) (lb rfl) (Rq.of (by omega) (by decide) (Nat.le_refl _) (Nat.le_refl _)) ?_
        rintro r9 G3 ⟨rfl, R3⟩
        have e3 : opnM M2 o' (M 39 (nN M 36 g + k)) (nI r) (nI 2) 65 = M2 65 := by unfold opnM; rw [up2_f (by decide), up2_f (by decide), up2_f (by decide), up2_f (by decide)]
        have I3 := opn_i I2 (M 39 (nN M 36 g + k)) (nI r) (nI 2) ⟨h, hh, eh⟩ (by omega)
        refine b_X9_tree_177.go C ⟨_, rfl, trivial, ?_⟩
        refine ihk _ _ (o' + 1) _ (by omega) ?_ R3 I3 (by rw [e3, e65]) (by rw [e3]; omega) (by omega) (by rw [hs2, tpF, nN_of j2 (by omega), j1 39 (by decide)])
        rw [Int32.add_assoc, show ((-1 : Int32) + nI 1) = 0 by decide +kernel, Int32.add_zero]
/-- why failure() throws, if it does -/
def flrT (M : MS) (v w : Int32) : Int32 := if (nI 1 ≤ v ∧ v ≤ M 1 0) ∧ (nI 0 ≤ w ∧ w ≤ nI 3) then (if M 8 v.toNatClampNeg = nI 2 then nI 0 else nI 2) else nI 1
def flrA (Q : Nat) (M : MS) (F : Nat) (v : Int32) : MS := treM Q (up2 M 54 0 (nI 0)) F (M 12 v.toNatClampNeg)
def flrB (Q : Nat) (M : MS) (F : Nat) (v i : Int32) : Bool := decide (nI 0 ≤ i ∧ i ≤ flrA Q M F v 60 0 - nI 1)
def flrM (Q : Nat) (M : MS) (F : Nat) (v i w : Int32) : MS := if flrT M v w = 0 then (if flrB Q M F v i = true then flrA Q M F v else up2 (flrA Q M F v) 54 0 (nI 3)) else up2 M 54 0 (flrT M v w)
def flrC (Q : Nat) (M : MS) (F : Nat) (v i w : Int32) : Int32 := if flrT M v w = 0 then (if flrB Q M F v i = true then (if w = 0 then M 33 (nN (flrA Q M F v) 57 i.toNatClampNeg) else if w = nI 1 then M 34 (nN (flrA Q M F v) 57 i.toNatClampNeg) else if w = nI 2 then flrA Q M F v 58 i.toNatClampNeg else flrA Q M F v 59 i.toNatClampNeg) else nI 0) else nI 0
set_option maxHeartbeats 2000000 in
theorem r_failure (d : Nat) (G : GH) (x : Nat) (ra : Nat → Nat) (M : MS) (Q F n : Nat) (hQ : 14000 ≤ Q) (v i w : Int32) (hR : RR G x ra M) (hn : M 1 0 = nI n) (hn2 : n ≤ 200) (hT : TrP M F) (hF : ∀ t, 1 ≤ t → t ≤ n → M 8 t = nI 2 → ∃ h, h < F ∧ M 12 t = nI h) : Cd l yX9_failure cX9_failure 4 (some .int) (d + 2) 0 0 Y [.inr (.inr (some x)), .inl v, .inl i, .inl w] G (fun r G' => RR G' x ra (flrM Q M F v i w) ∧ r = some (.inl (flrC Q M F v i w))) := by
  refine Ct.of (ini := False) (by decide +kernel) False.elim rfl (Nat.le_of_ble_eq_true rfl) ?_
  intro p e s m args below meth c C X
  have put : ∀ (z : Int32), flrT M v w = z → V p l e (RM (d + 2) 0 0) s m args below meth c Y (GA G s.heap.size) (QM below args s (RM (d + 2) 0 0) Y G (fun r G' => RR G' x ra (flrM Q M F v i w) ∧ r = some (.inl (flrC Q M F v i w)))) 37 G 0 0 [some (.inr (.inr (some x))), some (.inl v), some (.inl i), some (.inl w)] [.inl z, .inr (.inr (some x))] := by
    intro z hz
    have R1_ := hR.s54 z
    refine b_X9_failure_37.go C ⟨_, hR.1, _, R1_.1, fun h37 => ⟨trivial, ?_⟩, fun h37 => ⟨trivial, ?_⟩⟩
    rotate_left
    · have h37 : ¬ z = 0 := h37
      refine b_X9_failure_47.go C ⟨trivial, ?_⟩
      exact V_iret C X d_X9_failure_48 (Nat.zero_le _) (Nat.zero_le _) ⟨by rw [flrM, hz, if_neg h37]; exact R1_, by rw [flrC, hz, if_neg h37]⟩
    have hz0 : z = 0 := h37
    have hq : (nI 1 ≤ v ∧ v ≤ M 1 0) ∧ (nI 0 ≤ w ∧ w ≤ nI 3) := Classical.byContradiction (fun q => by rw [flrT, if_neg q] at hz; rw [← hz] at hz0; exact absurd hz0 (by decide +kernel))
    have h8 : M 8 v.toNatClampNeg = nI 2 := Classical.byContradiction (fun q => by rw [flrT, if_pos hq, if_neg q] at hz; rw [← hz] at hz0; exact absurd hz0 (by decide +kernel))
    obtain ⟨t, ht1, ht, rfl⟩ := st_of hn hn2 hq.1
    have ev : (nI t).toNatClampNeg = t := nI_clamp (by omega)
    rw [ev] at h8
    obtain ⟨h, hh, e12⟩ := hF t ht1 ht h8
    have T1 : TrP (up2 M 54 0 (nI 0)) F := hT.up _
    obtain rfl : z = nI 0 := hz0.trans nI_0.symm
    have eA : treM Q (up2 M 54 0 (nI 0)) F (nI h) = flrA Q M F (nI t) := by rw [flrA, ev, e12]
    have hF2 := hT.1
    refine b_X9_failure_49.go C ⟨_, R1_.1, _, _, R1_.2.1 12 (by decide) rfl, t, rfl, by show t < 201; omega, lb rfl, _, e12, trivial, ?_⟩
    refine k_X9_failure_56.go C X (r_tree d _ x ra _ Q F h hQ R1_ T1 hh) (rest := []) rfl rfl rfl (fun _ => ⟨x, 9, _, rfl, R1_.1, by decide⟩) (lb rfl) (Rq.of (by omega) (by decide) (Nat.le_refl _) (Nat.le_refl _)) ?_
    rintro r G2 ⟨rfl, R2, o, r1, hr1, I2⟩
    rw [eA] at R2 I2
    obtain ⟨i1, i2, i3, i4, i5, i6, i7⟩ := I2
    refine b_X9_failure_59.go C ⟨_, R2.1, _, rfl, trivial, ?_⟩
    refine k_X9_failure_67.go C X (r_in (d + 1) G2 i (nI 0) (flrA Q M F (nI t) 60 0 - nI 1)) (rest := []) rfl rfl rfl (fun h => absurd rfl h) (lb rfl) (Rq.of (by omega) (by decide) (Nat.le_refl _) (Nat.le_refl _)) ?_
    rintro r G9 ⟨h9, rfl⟩
    replace h9 := h9.symm
    subst h9
    refine b_X9_failure_70.go C ⟨fun h70 => ⟨trivial, ?_⟩, fun h70 => ⟨trivial, ?_⟩⟩
    rotate_left
    · have hb : ¬ flrB Q M F (nI t) i = true := by rw [flrB, bI_0 h70]; decide
      have R2_ := R2.s54 (nI 3)
      refine b_X9_failure_73.go C ⟨_, R2.1, trivial, ?_⟩
      exact V_iret C X d_X9_failure_79 (Nat.zero_le _) (Nat.zero_le _) ⟨by rw [flrM, hz, if_pos nI_0, if_neg hb]; exact R2_, by rw [flrC, hz, if_pos nI_0, if_neg hb]⟩
    have hb : flrB Q M F (nI t) i = true := bI_1 h70
    have hb2 := of_decide_eq_true (bI_1 h70)
    have fin : ∀ y : Int32, flrC Q M F (nI t) i w = y → V p l e (RM (d + 2) 0 0) s m args below meth c Y (GA G s.heap.size) (QM below args s (RM (d + 2) 0 0) Y G (fun r G' => RR G' x ra (flrM Q M F (nI t) i w) ∧ r = some (.inl (flrC Q M F (nI t) i w)))) 137 G2 0 0 [some (.inr (.inr (some x))), some (.inl (nI t)), some (.inl i), some (.inl w)] [.inl y] := by
      intro y hy
      exact V_iret C X d_X9_failure_137 (Nat.zero_le _) (Nat.zero_le _) ⟨by rw [flrM, hz, if_pos nI_0, if_pos hb]; exact R2, by rw [hy]⟩
    have er : ∃ j, j < r1 ∧ i = nI j := by
      rw [i3] at hb2
      rcases Nat.eq_zero_or_pos r1 with q | q
      · subst q
        exact absurd (Int32.le_trans hb2.1 hb2.2) (by decide +kernel)
      · rw [pk_sub (by omega)] at hb2
        obtain ⟨j, -, hj, rfl⟩ := in_of (a := 0) (b := r1 - 1) (by omega) hb2 (by omega)
        exact ⟨j, by omega, rfl⟩
    obtain ⟨j, hj, rfl⟩ := er
    have ej : (nI j).toNatClampNeg = j := nI_clamp (by omega)
    obtain ⟨g, hg, e57⟩ := i5 j hj
    have en : nN (flrA Q M F (nI t)) 57 j = g := nN_of e57 (by omega)
    have e33 : flrA Q M F (nI t) 33 = M 33 := by rw [i1 33 (by decide)]; exact up2_f (by decide)
    have e34 : flrA Q M F (nI t) 34 = M 34 := by rw [i1 34 (by decide)]; exact up2_f (by decide)
    refine b_X9_failure_80.go C ⟨fun h80 => ⟨trivial, ?_⟩, fun h80 => ⟨trivial, ?_⟩⟩
    rotate_left
    · refine b_X9_failure_84.go C ⟨_, R2.1, _, R2.1, _, _, R2.2.1 57 (by decide) rfl, j, rfl, by show j < 2000; omega, lb rfl, _, e57, _, _, R2.2.1 33 (by decide) rfl, g, rfl, by show g < 2000; omega, lb rfl, _, rfl, trivial, ?_⟩
      exact fin _ (by rw [flrC, hz, if_pos nI_0, if_pos hb, if_pos h80, ej, en, e33])
    refine b_X9_failure_98.go C ⟨fun h98 => ⟨trivial, ?_⟩, fun h98 => ⟨trivial, ?_⟩⟩
    rotate_left
    · refine b_X9_failure_103.go C ⟨_, R2.1, _, R2.1, _, _, R2.2.1 57 (by decide) rfl, j, rfl, by show j < 2000; omega, lb rfl, _, e57, _, _, R2.2.1 34 (by decide) rfl, g, rfl, by show g < 2000; omega, lb rfl, _, rfl, trivial, ?_⟩
      exact fin _ (by rw [flrC, hz, if_pos nI_0, if_pos hb, if_neg h80, if_pos h98, ej, en, e34])
    refine b_X9_failure_117.go C ⟨fun h117 => ⟨trivial, ?_⟩, fun h117 => ⟨trivial, ?_⟩⟩
    rotate_left
    · refine b_X9_failure_122.go C ⟨_, R2.1, _, _, R2.2.1 58 (by decide) rfl, j, rfl, by show j < 2000; omega, lb rfl, _, rfl, trivial, ?_⟩
      exact fin _ (by rw [flrC, hz, if_pos nI_0, if_pos hb, if_neg h80, if_neg h98, if_pos h117, ej])
    refine b_X9_failure_131.go C ⟨_, R2.1, _, _, R2.2.1 59 (by decide) rfl, j, rfl, by show j < 2000; omega, lb rfl, _, rfl, trivial, ?_⟩
    exact fin _ (by rw [flrC, hz, if_pos nI_0, if_pos hb, if_neg h80, if_neg h98, if_neg h117, ej])
  refine b_X9_failure_0.go C ⟨trivial, ?_⟩
  refine k_X9_failure_3.go C X (r_isStage d G x ra M v hR) (rest := [.inr (.inr (some x))]) rfl rfl rfl (fun _ => ⟨x, 9, _, rfl, hR.1, by decide⟩) (lb rfl) (Rq.of (by omega) (by decide) (Nat.le_refl _) (Nat.le_refl _)) ?_
  rintro r G9 ⟨h9, rfl⟩
  replace h9 := h9.symm
  subst h9
  refine b_X9_failure_6.go C ⟨fun h6 => ⟨trivial, ?_⟩, fun h6 => ⟨trivial, ?_⟩⟩
  · have h1 := of_decide_eq_false (bI_0 h6)
    refine b_X9_failure_18.go C ⟨trivial, ?_⟩
    exact put _ (by rw [flrT, if_neg (fun q => h1 q.1)])
  have h1 := of_decide_eq_true (bI_1 h6)
  refine b_X9_failure_9.go C ⟨trivial, ?_⟩
  refine k_X9_failure_12.go C X (r_in (d + 1) G w (nI 0) (nI 3)) (rest := [.inr (.inr (some x))]) rfl rfl rfl (fun h => absurd rfl h) (lb rfl) (Rq.of (by omega) (by decide) (Nat.le_refl _) (Nat.le_refl _)) ?_
  rintro r G9 ⟨h9, rfl⟩
  replace h9 := h9.symm
  subst h9
  refine b_X9_failure_15.go C ⟨fun h15 => ⟨trivial, ?_⟩, fun h15 => ⟨trivial, ?_⟩⟩
  rotate_left
  · have h2 := of_decide_eq_false (bI_0 h15)
    refine b_X9_failure_18.go C ⟨trivial, ?_⟩
    exact put _ (by rw [flrT, if_neg (fun q => h2 q.2)])
  have h2 := of_decide_eq_true (bI_1 h15)
  obtain ⟨t, ht1, ht, rfl⟩ := st_of hn hn2 h1
  have ev : (nI t).toNatClampNeg = t := nI_clamp (by omega)
  refine b_X9_failure_22.go C ⟨_, hR.1, _, _, hR.2.1 8 (by decide) rfl, t, rfl, by show t < 201; omega, lb rfl, _, rfl, fun h22 => ⟨trivial, ?_⟩, fun h22 => ⟨trivial, ?_⟩⟩
  · refine b_X9_failure_36.go C ⟨trivial, ?_⟩
    exact put _ (by rw [flrT, if_pos ⟨h1, h2⟩, ev, if_pos h22])
  · refine b_X9_failure_32.go C ⟨trivial, ?_⟩
    exact put _ (by rw [flrT, if_pos ⟨h1, h2⟩, ev, if_neg h22])
end REFX
