/-! the reference: behind, dues, follow, begins; over any invariant I that marking and asking keep -/
section REFM
variable {l : Launch} {Y : YT}
/-- one of t's inputs has ended -/
def someB (M : MS) (t : Nat) : Bool := anyI (fun j => decide (¬ M 8 (iN M t j) = 0)) (kI M t) 0 false
def behF : Nat → Nat → MS → MS
  | 0, _, M => M
  | q + 1, t, M => behF q (t + 1) (if someB M t = true ∧ M 8 t = 0 then askedM M t else M)
def behM (n : Nat) (M : MS) (s : Nat) : MS := behF (n - s) (s + 1) M
/-- what the calls that bring about others ask of an invariant -/
def IP (n : Nat) (m3 m4 : Nat → Int32) (I : MS → Prop) : Prop := n ≤ 200 ∧
  (∀ M, I M → M 1 0 = nI n ∧ (∀ t, t ≤ n → inOk M t ∧ ∀ j, j < kI M t → iN M t j < t) ∧ M 3 = m3 ∧ M 4 = m4 ∧ ∃ e dt, M 16 0 = nI e ∧ e ≤ 200 ∧ M 17 0 = nI dt ∧ dt ≤ e ∧ ∀ p, 1 ≤ p → p ≤ e → M 15 p = nI (nN M 15 p) ∧ nN M 15 p ≤ n) ∧
  (∀ M t, I M → t ≤ n → someB M t = true → M 8 t = 0 → askP M t ∧ I (askedM M t)) ∧
  (∀ M t, I M → 1 ≤ t → t ≤ n → M 8 t = 0 → markOk M t ∧ I (markM M t (nI 3)))
set_option maxHeartbeats 1000000 in
theorem r_behind (d : Nat) (G : GH) (x : Nat) (ra : Nat → Nat) (M : MS) (u n : Nat) (m3 m4 : Nat → Int32) (I : MS → Prop) (hP : IP n m3 m4 I) (hR : RR G x ra M) (hM : I M) (hu : u ≤ n) : Cd l yX9_behind cX9_behind 5 none (d + 6) 0 0 Y [.inr (.inr (some x)), .inl (nI u)] G (fun r G' => r = none ∧ RR G' x ra (behM n M u) ∧ I (behM n M u)) := by
  obtain ⟨hn2, hF, hAsk, -⟩ := hP
  refine Ct.of (ini := False) (by decide +kernel) False.elim rfl (Nat.le_of_ble_eq_true rfl) ?_
  intro p e s m args below meth c C X
  refine b_X9_behind_0.go C ⟨_, nI_1 u, trivial, ?_⟩
  refine (show ∀ (q t : Nat) (G1 : GH) (M1 : MS) (o3 o4 : Option AV), t + q = n + 1 → RR G1 x ra M1 → I M1 → behM n M u = behF q t M1 → V p l e _ s m args below meth c Y _ _ 4 G1 0 0 [some (.inr (.inr (some x))), some (.inl (nI u)), some (.inl (nI t)), o3, o4] [] from ?_) (n - u) (u + 1) G M none none (by omega) hR hM rfl
  intro q
  induction q with
  | zero =>
    intro t G1 M1 o3 o4 ht R1 I1 hs
    obtain ⟨hn, -⟩ := hF M1 I1
    refine b_X9_behind_4.go C ⟨_, R1.1, fun h1 => ⟨trivial, ?_⟩, fun h1 => absurd (show M1 1 0 < nI t by rw [hn]; exact nI_lt (by omega) (by omega)) h1⟩
    exact V_vret C X d_X9_behind_88 (Nat.zero_le _) (Nat.zero_le _) ⟨rfl, by rw [hs, behF]; exact ⟨R1, I1⟩⟩
  | succ q ih =>
    intro t G1 M1 o3 o4 ht R1 I1 hs
    obtain ⟨hn, hin, -⟩ := hF M1 I1
    obtain ⟨ht2, hk, hk2, hj⟩ := (hin t (by omega)).1
    have hlt : t < 201 := by omega
    refine b_X9_behind_4.go C ⟨_, R1.1, fun h1 => absurd (show M1 1 0 < nI t from h1) (by rw [hn]; exact nI_nlt (by omega) (by omega)), fun h1 => ⟨trivial, ?_⟩⟩
    refine b_X9_behind_12.go C ⟨trivial, ?_⟩
    refine (show ∀ (w j : Nat) (a : Bool), j + w = kI M1 t → someB M1 t = anyI (fun j => decide (¬ M1 8 (iN M1 t j) = 0)) w j a → V p l e _ s m args below meth c Y _ _ 17 G1 0 0 [some (.inr (.inr (some x))), some (.inl (nI u)), some (.inl (nI t)), some (.inl (bI a)), some (.inl (nI j))] [] from ?_) (kI M1 t) 0 false (by omega) rfl
    intro w
    induction w with
    | zero =>
      intro j a hw hp
      have hp' : someB M1 t = a := hp
      have skip : ¬ (someB M1 t = true ∧ M1 8 t = 0) → V p l e (RM (d + 6) 0 0) s m args below meth c Y (GA G s.heap.size) (QM below args s (RM (d + 6) 0 0) Y G (fun r G' => r = none ∧ RR G' x ra (behM n M u) ∧ I (behM n M u))) 82 G1 0 0 [some (.inr (.inr (some x))), some (.inl (nI u)), some (.inl (nI t)), some (.inl (bI a)), some (.inl (nI j))] [] := by
        intro hn9
        refine b_X9_behind_82.go C ⟨_, nI_1 t, trivial, ?_⟩
        exact ih (t + 1) G1 M1 _ _ (by omega) R1 I1 (by rw [hs, behF, if_neg hn9])
      refine b_X9_behind_17.go C ⟨_, R1.1, _, _, R1.2.1 4 (by decide) rfl, t, rfl, hlt, lb rfl, _, hk, fun h2 => ⟨trivial, ?_⟩, fun h2 => absurd (nI_le (by omega) (by omega)) h2⟩
      refine b_X9_behind_64.go C ⟨fun h3 => ⟨trivial, ?_⟩, fun h3 => ⟨trivial, ?_⟩⟩
      · exact skip (fun h => by rw [hp', bI_0 h3] at h; cases h.1)
      · refine b_X9_behind_68.go C ⟨_, R1.1, _, _, R1.2.1 8 (by decide) rfl, t, rfl, hlt, lb rfl, _, rfl, fun h4 => ⟨trivial, ?_⟩, fun h4 => ⟨trivial, ?_⟩⟩
        · exact skip (fun h => h4 h.2)
        · have hsb : someB M1 t = true := hp'.trans (bI_1 h3)
          obtain ⟨hap, I2⟩ := hAsk M1 t I1 (by omega) hsb h4
          refine b_X9_behind_77.go C ⟨trivial, ?_⟩
          refine k_X9_behind_79.go C X (r_asked d _ x ra M1 t R1 hap) (rest := []) rfl rfl rfl (fun _ => ⟨x, 9, _, rfl, R1.1, by decide⟩) (Nat.zero_le _) (Rq.of (Nat.le_refl _) (by decide) (Nat.le_refl _) (Nat.le_refl _)) ?_
          rintro r G2 ⟨rfl, R2⟩
          refine b_X9_behind_82.go C ⟨_, nI_1 t, trivial, ?_⟩
          exact ih (t + 1) G2 _ _ _ (by omega) R2 I2 (by rw [hs, behF, if_pos ⟨hsb, h4⟩])
    | succ w ihw =>
      intro j a hw hp
      obtain ⟨hi, hi1, hi2⟩ := hj j (by omega)
      refine b_X9_behind_17.go C ⟨_, R1.1, _, _, R1.2.1 4 (by decide) rfl, t, rfl, hlt, lb rfl, _, hk, fun h2 => absurd ((nI_leI (by omega) (by omega)).mp h2) (by omega), fun h2 => ⟨trivial, ?_⟩⟩
      refine b_X9_behind_28.go C ⟨fun h3 => ⟨trivial, ?_⟩, fun h3 => ⟨trivial, ?_⟩⟩
      · refine b_X9_behind_52.go C ⟨trivial, ?_⟩
        refine b_X9_behind_57.go C ⟨_, nI_1 j, trivial, ?_⟩
        exact ihw (j + 1) true (by omega) (by rw [hp, anyI, bI_1 h3, Bool.true_or])
      · refine b_X9_behind_32.go C ⟨_, R1.1, _, R1.1, _, pk_mul 24 t, _, nI_add _ _, _, _, R1.2.1 3 (by decide) rfl, 24 * t + j, rfl, by show 24 * t + j < 4824; omega, lb rfl, _, hi, _, _, R1.2.1 8 (by decide) rfl, iN M1 t j, rfl, by show iN M1 t j < 201; omega, lb rfl, _, rfl, fun h4 => ⟨trivial, ?_⟩, fun h4 => ⟨trivial, ?_⟩⟩
        · refine b_X9_behind_56.go C ⟨trivial, ?_⟩
          refine b_X9_behind_57.go C ⟨_, nI_1 j, trivial, ?_⟩
          exact ihw (j + 1) false (by omega) (by rw [hp, anyI, bI_0 h3, decide_eq_false (fun h => h h4)]; rfl)
        · refine b_X9_behind_52.go C ⟨trivial, ?_⟩
          refine b_X9_behind_57.go C ⟨_, nI_1 j, trivial, ?_⟩
          exact ihw (j + 1) true (by omega) (by rw [hp, anyI, bI_0 h3, decide_eq_true h4]; rfl)
end REFM
