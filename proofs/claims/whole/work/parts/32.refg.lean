/-! the reference: then, both -/
section REFG
variable {l : Launch} {Y : YT}
/-- what asking t asks: mark's room, room for a failure and for what it suppresses -/
def askOk (M : MS) (t : Nat) : Prop := markOk M t ∧ (∃ f, M 38 0 = nI f ∧ f < 2000) ∧ (∃ a, M 40 0 = nI a ∧ a + 24 < 8000)
theorem markOk_nf {M : MS} {s n : Nat} {a b c : Int32} (h : markOk M s) : markOk (newFM M n a b c) s :=
  markOk_up (markOk_up (markOk_up (markOk_up (markOk_up (markOk_up h (by decide)) (by decide)) (by decide)) (by decide)) (by decide)) (by decide)
/-- the quotient, down to the lower whole number, as the reference makes it -/
def qdiv (v a : Int32) : Int32 := if ¬ v - v / a * a = 0 ∧ ¬ (bI (decide (v - v / a * a < 0)) = bI (decide (a < 0))) then v / a - nI 1 else v / a
def pick4 {α : Type} (k : Nat) (a b c d e : α) : α := match k with | 0 => a | 1 => b | 2 => c | 3 => d | _ => e
def thenM (M : MS) (t s : Nat) : MS :=
  if ¬ M 8 s = nI 1 then asM M t s else
    pick4 (nN M 5 t) (wvM M t (M 11 s + M 6 t)) (wvM M t (M 11 s - M 6 t)) (wvM M t (M 11 s * M 6 t)) (wvM M t (M 11 s ^^^ M 6 t))
      (if M 6 t = 0 then wfM (newFM M (nN M 38 0) (nI 6) (nI t) (-1)) t (nI (nN M 38 0)) else wvM M t (qdiv (M 11 s) (M 6 t)))
theorem tab_at {k j : Nat} (hk : k < 2 ^ 31) (h : (nI k).toInt = 0 + (j : Int)) : j = k := by rw [nI_toInt hk] at h; omega
set_option maxHeartbeats 1000000 in
theorem r_askThen (d : Nat) (G : GH) (x : Nat) (ra : Nat → Nat) (M : MS) (t u k : Nat) (hR : RR G x ra M) (ok : askOk M t) (hu : u ≤ 200) (hk : M 5 t = nI k) (hk2 : k ≤ 4) : Cd l yX9_askThen cX9_askThen 7 none (d + 3) 0 0 Y [.inr (.inr (some x)), .inl (nI t), .inl (nI u)] G (fun r G' => r = none ∧ RR G' x ra (thenM M t u)) := by
  obtain ⟨mk, ⟨f, hf, hf2⟩, -⟩ := ok
  refine Ct.of (ini := False) (by decide +kernel) False.elim rfl (Nat.le_of_ble_eq_true rfl) ?_
  intro p e s m args below meth c C X
  have hlt : t < 201 := by have := mk.1; omega
  have hlu : u < 201 := by omega
  have ek : nN M 5 t = k := nN_of hk (by omega)
  have ef : nN M 38 0 = f := nN_of hf (by omega)
  refine b_X9_askThen_0.go C ⟨_, hR.1, _, _, hR.2.1 11 (by decide) rfl, u, rfl, hlu, lb rfl, _, rfl, _, hR.1, _, _, hR.2.1 6 (by decide) rfl, t, rfl, hlt, lb rfl, _, rfl, _, hR.1, _, _, hR.2.1 8 (by decide) rfl, u, rfl, hlu, lb rfl, _, rfl, fun h1 => ⟨trivial, ?_⟩, fun h1 => ⟨trivial, ?_⟩⟩
  rotate_left
  · refine b_X9_askThen_25.go C ⟨trivial, ?_⟩
    refine k_X9_askThen_28.go C X (r_as d _ x ra M t u hR mk hu) (rest := []) rfl rfl rfl (fun _ => ⟨x, 9, _, rfl, hR.1, by decide⟩) (Nat.zero_le _) (Rq.of (Nat.le_refl _) (by decide) (Nat.le_refl _) (Nat.le_refl _)) ?_
    rintro r G' ⟨rfl, R1⟩
    exact V_vret C X d_X9_askThen_31 (Nat.zero_le _) (Nat.zero_le _) ⟨rfl, by rw [thenM, if_pos h1]; exact R1⟩
  have e1 : thenM M t u = pick4 k (wvM M t (M 11 u + M 6 t)) (wvM M t (M 11 u - M 6 t)) (wvM M t (M 11 u * M 6 t)) (wvM M t (M 11 u ^^^ M 6 t))
      (if M 6 t = 0 then wfM (newFM M f (nI 6) (nI t) (-1)) t (nI f) else wvM M t (qdiv (M 11 u) (M 6 t))) := by
    rw [thenM, if_neg (fun h => h h1), ek, ef]
  refine b_X9_askThen_32.go C ⟨_, hR.1, _, _, hR.2.1 5 (by decide) rfl, t, rfl, hlt, lb rfl, _, hk, fun h2 => ⟨trivial, ?_⟩, fun j tgt h2 h3 => ?_⟩
  · obtain rfl : k = 4 := by
      rw [nI_toInt (by omega)] at h2
      omega
    refine b_X9_askThen_116.go C ⟨fun h3 => ⟨trivial, ?_⟩, fun h3 => ⟨trivial, ?_⟩⟩
    · have fin : ∀ z : Int32, z = qdiv (M 11 u) (M 6 t) → V p l e (RM (d + 3) 0 0) s m args below meth c Y (GA G s.heap.size) (QM below args s (RM (d + 3) 0 0) Y G (fun r G' => r = none ∧ RR G' x ra (thenM M t u))) 191 G 0 0 [some (.inr (.inr (some x))), some (.inl (nI t)), some (.inl (nI u)), some (.inl (M 11 u)), some (.inl (M 6 t)), some (.inl (M 11 u / M 6 t)), some (.inl (M 11 u - M 11 u / M 6 t * M 6 t))] [.inl z, .inl (nI t), .inr (.inr (some x))] := by
        intro z hz
        refine k_X9_askThen_191.go C X (r_withValue d _ x ra M t z hR mk) (rest := []) rfl rfl rfl (fun _ => ⟨x, 9, _, rfl, hR.1, by decide⟩) (Nat.zero_le _) (Rq.of (Nat.le_refl _) (by decide) (Nat.le_refl _) (Nat.le_refl _)) ?_
        rintro r G' ⟨rfl, R1⟩
        exact V_vret C X d_X9_askThen_194 (Nat.zero_le _) (Nat.zero_le _) ⟨rfl, by rw [e1]; show RR G' x ra (if M 6 t = 0 then _ else _); rw [if_neg h3, ← hz]; exact R1⟩
      have nz : ∀ b1 b2 : Bool, b1 = decide (M 11 u - M 11 u / M 6 t * M 6 t < 0) → b2 = decide (M 6 t < 0) → ¬ M 11 u - M 11 u / M 6 t * M 6 t = 0 → V p l e (RM (d + 3) 0 0) s m args below meth c Y (GA G s.heap.size) (QM below args s (RM (d + 3) 0 0) Y G (fun r G' => r = none ∧ RR G' x ra (thenM M t u))) 179 G 0 0 [some (.inr (.inr (some x))), some (.inl (nI t)), some (.inl (nI u)), some (.inl (M 11 u)), some (.inl (M 6 t)), some (.inl (M 11 u / M 6 t)), some (.inl (M 11 u - M 11 u / M 6 t * M 6 t))] [.inl (bI b2), .inl (bI b1), .inl (nI t), .inr (.inr (some x))] := by
        intro b1 b2 hb1 hb2 h0
        refine b_X9_askThen_179.go C ⟨fun h4 => ⟨trivial, ?_⟩, fun h4 => ⟨trivial, ?_⟩⟩
        · refine b_X9_askThen_189.go C ⟨trivial, ?_⟩
          exact fin _ (by rw [qdiv, if_neg (fun h => h.2 (by rw [← hb1, ← hb2]; exact h4))])
        · refine b_X9_askThen_182.go C ⟨_, rfl, trivial, ?_⟩
          exact fin _ (by rw [qdiv, if_pos ⟨h0, fun h => h4 (by rw [hb1, hb2]; exact h)⟩])
      have n2 : ∀ b1 : Bool, b1 = decide (M 11 u - M 11 u / M 6 t * M 6 t < 0) → ¬ M 11 u - M 11 u / M 6 t * M 6 t = 0 → V p l e (RM (d + 3) 0 0) s m args below meth c Y (GA G s.heap.size) (QM below args s (RM (d + 3) 0 0) Y G (fun r G' => r = none ∧ RR G' x ra (thenM M t u))) 169 G 0 0 [some (.inr (.inr (some x))), some (.inl (nI t)), some (.inl (nI u)), some (.inl (M 11 u)), some (.inl (M 6 t)), some (.inl (M 11 u / M 6 t)), some (.inl (M 11 u - M 11 u / M 6 t * M 6 t))] [.inl (bI b1), .inl (nI t), .inr (.inr (some x))] := by
        intro b1 hb1 h0
        refine b_X9_askThen_169.go C ⟨fun h4 => ⟨trivial, ?_⟩, fun h4 => ⟨trivial, ?_⟩⟩
        · refine b_X9_askThen_178.go C ⟨trivial, ?_⟩
          exact nz b1 false hb1 (decide_eq_false (Int32.not_lt.mpr h4)).symm h0
        · refine b_X9_askThen_174.go C ⟨trivial, ?_⟩
          exact nz b1 true hb1 (decide_eq_true (Int32.not_le.mp h4)).symm h0
      refine b_X9_askThen_137.go C ⟨h3, _, rfl, _, rfl, _, rfl, fun h4 => ⟨trivial, ?_⟩, fun h4 => ⟨trivial, ?_⟩⟩
      · refine b_X9_askThen_189.go C ⟨trivial, ?_⟩
        exact fin _ (by rw [qdiv, if_neg (fun h => h.1 h4)])
      · refine b_X9_askThen_159.go C ⟨fun h5 => ⟨trivial, ?_⟩, fun h5 => ⟨trivial, ?_⟩⟩
        · refine b_X9_askThen_168.go C ⟨trivial, ?_⟩
          exact n2 false (decide_eq_false (Int32.not_lt.mpr h5)).symm h4
        · refine b_X9_askThen_164.go C ⟨trivial, ?_⟩
          exact n2 true (decide_eq_true (Int32.not_le.mp h5)).symm h4
    · refine b_X9_askThen_121.go C ⟨trivial, ?_⟩
      refine k_X9_askThen_128.go C X (r_newFailure d _ x ra M f (nI 6) (nI t) (-1) hR hf hf2) (rest := [.inl (nI t), .inr (.inr (some x))]) rfl rfl rfl (fun _ => ⟨x, 9, _, rfl, hR.1, by decide⟩) (lb rfl) (Rq.of (by omega) (by decide) (Nat.le_refl _) (Nat.le_refl _)) ?_
      rintro r G' ⟨rfl, R1⟩
      refine k_X9_askThen_131.go C X (r_withFailure d _ x ra _ t (nI f) R1 (markOk_nf mk)) (rest := []) rfl rfl rfl (fun _ => ⟨x, 9, _, rfl, R1.1, by decide⟩) (Nat.zero_le _) (Rq.of (Nat.le_refl _) (by decide) (Nat.le_refl _) (Nat.le_refl _)) ?_
      rintro r G'' ⟨rfl, R2⟩
      refine b_X9_askThen_134.go C ⟨trivial, ?_⟩
      exact V_vret C X d_X9_askThen_194 (Nat.zero_le _) (Nat.zero_le _) ⟨rfl, by rw [e1]; show RR G'' x ra (if M 6 t = 0 then _ else _); rw [if_pos h3]; exact R2⟩
  · obtain rfl := tab_at (by omega) h2
    match j, h3 with
    | 0, h3 =>
      cases h3
      refine ⟨trivial, b_X9_askThen_68.go C ⟨_, rfl, trivial, ?_⟩⟩
      refine k_X9_askThen_74.go C X (r_withValue d _ x ra M t _ hR mk) (rest := []) rfl rfl rfl (fun _ => ⟨x, 9, _, rfl, hR.1, by decide⟩) (Nat.zero_le _) (Rq.of (Nat.le_refl _) (by decide) (Nat.le_refl _) (Nat.le_refl _)) ?_
      rintro r G' ⟨rfl, R1⟩
      refine b_X9_askThen_77.go C ⟨trivial, ?_⟩
      exact V_vret C X d_X9_askThen_194 (Nat.zero_le _) (Nat.zero_le _) ⟨rfl, by rw [e1]; exact R1⟩
    | 1, h3 =>
      cases h3
      refine ⟨trivial, b_X9_askThen_80.go C ⟨_, rfl, trivial, ?_⟩⟩
      refine k_X9_askThen_86.go C X (r_withValue d _ x ra M t _ hR mk) (rest := []) rfl rfl rfl (fun _ => ⟨x, 9, _, rfl, hR.1, by decide⟩) (Nat.zero_le _) (Rq.of (Nat.le_refl _) (by decide) (Nat.le_refl _) (Nat.le_refl _)) ?_
      rintro r G' ⟨rfl, R1⟩
      refine b_X9_askThen_89.go C ⟨trivial, ?_⟩
      exact V_vret C X d_X9_askThen_194 (Nat.zero_le _) (Nat.zero_le _) ⟨rfl, by rw [e1]; exact R1⟩
    | 2, h3 =>
      cases h3
      refine ⟨trivial, b_X9_askThen_92.go C ⟨_, rfl, trivial, ?_⟩⟩
      refine k_X9_askThen_98.go C X (r_withValue d _ x ra M t _ hR mk) (rest := []) rfl rfl rfl (fun _ => ⟨x, 9, _, rfl, hR.1, by decide⟩) (Nat.zero_le _) (Rq.of (Nat.le_refl _) (by decide) (Nat.le_refl _) (Nat.le_refl _)) ?_
      rintro r G' ⟨rfl, R1⟩
      refine b_X9_askThen_101.go C ⟨trivial, ?_⟩
      exact V_vret C X d_X9_askThen_194 (Nat.zero_le _) (Nat.zero_le _) ⟨rfl, by rw [e1]; exact R1⟩
    | 3, h3 =>
      cases h3
      refine ⟨trivial, b_X9_askThen_104.go C ⟨_, rfl, trivial, ?_⟩⟩
      refine k_X9_askThen_110.go C X (r_withValue d _ x ra M t _ hR mk) (rest := []) rfl rfl rfl (fun _ => ⟨x, 9, _, rfl, hR.1, by decide⟩) (Nat.zero_le _) (Rq.of (Nat.le_refl _) (by decide) (Nat.le_refl _) (Nat.le_refl _)) ?_
      rintro r G' ⟨rfl, R1⟩
      refine b_X9_askThen_113.go C ⟨trivial, ?_⟩
      exact V_vret C X d_X9_askThen_194 (Nat.zero_le _) (Nat.zero_le _) ⟨rfl, by rw [e1]; exact R1⟩
    | j + 4, h3 => simp at h3
end REFG
