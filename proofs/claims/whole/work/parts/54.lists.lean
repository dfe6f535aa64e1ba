/-! ArrayList's and Arrays' methods that make or move things -/
section LISTS
variable {l : Launch} {Y : YT}
theorem R40 (d mc ms : Nat) : 1 ≤ (RM (d + 1) mc ms).frames ∧ 40 ≤ (RM (d + 1) mc ms).locals := ⟨Nat.succ_le_succ (Nat.zero_le _), by show 40 ≤ 40 * (d + 1); omega⟩
/-- the first n of f, then z -/
def trc {α : Type} (f : Nat → α) (n : Nat) (z : α) : Nat → α := fun j => if j < n then f j else z
theorem cpy_trc {α : Type} (f : Nat → α) (n : Nat) (z : α) : va_cpy f (fun _ => z) 0 0 n = trc f n z := by
  funext j
  unfold va_cpy trc
  by_cases h : j < n
  · rw [if_pos ⟨Nat.zero_le _, by omega⟩, if_pos h, Nat.zero_add, Nat.sub_zero]
  · rw [if_neg (by omega), if_neg h]
theorem c_copyOfI (d : Nat) (G : GH) (a n0 n1 : Nat) (f : Nat → Int32) (ha : G a = some (.inl (0, n0, .inl f))) (h : n0 < n1) (hn : n1 ≤ 100000) : Cd l yJ7_copyOf_59c91 cJ7_copyOf_59c91 3 (some (.array .int)) (d + 1) 1 n1 Y [.inr (.inr (some a)), .inl (nI n1)] G (fun r G' => ∃ q, G q = none ∧ r = some (.inr (.inr (some q))) ∧ G' = va_up G q (some (.inl (0, n1, .inl (trc f n0 0))))) := by
  refine Ct.of (ini := False) (by decide +kernel) False.elim rfl (Nat.le_of_ble_eq_true rfl) ?_
  intro p e s m args below meth c C X
  refine b_J7_copyOf_59c91_0.go C ⟨n0, Or.inl ⟨0, _, by decide, ha⟩, fun h1 => ⟨trivial, ?_⟩, fun h1 => absurd ((nI_eq (by omega) (by omega)).mp h1) (by omega)⟩
  refine b_J7_copyOf_59c91_14.go C ⟨n1, rfl, hn, Nat.le_refl _, by show 0 + n1 ≤ n1; omega, fun q hq => ?_⟩
  have hqa := ne_none ha hq
  refine ⟨n0, Or.inl ⟨0, _, by decide, (up_ne hqa).trans ha⟩, trivial, ?_⟩
  refine k_J7_copyOf_59c91_25.go C X (c_min d _ (nI n0) (nI n1)) (rest := [.inl (nI 0), .inr (.inr (some q)), .inl (nI 0), .inr (.inr (some a))]) rfl rfl rfl (fun h => absurd rfl h) (lb rfl) (Rq.of (Nat.le_refl _) (by decide) (Nat.le_refl _) (by show 0 + n1 + 0 ≤ n1; omega)) ?_
  rintro r G' ⟨rfl, rfl⟩
  rw [if_neg (nI_nlt (by omega) (by omega))]
  refine V_copyi (rest := []) (sp := 0) (dp := 0) (q := n0) C X qx_acA d_J7_copyOf_59c91_28 rfl (R40 d _ _) (lb rfl) ((up_ne hqa).trans ha) up_eq (by omega) hn (by omega) (by omega) ?_
  rw [bx_uu, cpy_trc]
  refine b_J7_copyOf_59c91_31.go C ⟨trivial, ?_⟩
  exact V_aret C X (Or.inr ⟨_, rfl⟩) d_J7_copyOf_59c91_32 (Nat.le_refl _) (by show 0 + n1 + 0 ≤ n1; omega) ⟨q, hq, rfl, rfl⟩
theorem c_copyOfQ3 (d : Nat) (G : GH) (a n0 n1 : Nat) (f : Nat → Option Nat) (ha : G a = some (oar 6 n0 f)) (h : n0 < n1) (hn : n1 ≤ 100000) (hel : ∀ j, j < n0 → ∀ y, f j = some y → ∃ ci fs, G y = some (.inr (ci, fs)) ∧ ci ∈ [6, 7]) : Cd l yJ7_copyOf_6403c cJ7_copyOf_6403c 4 (some (.array (.object "java/lang/Object"))) (d + 1) 1 n1 Y [.inr (.inr (some a)), .inl (nI n1), .inr (.inr (some (Y.2.2 1)))] G (fun r G' => ∃ q, G q = none ∧ r = some (.inr (.inr (some q))) ∧ G' = va_up G q (some (oar 6 n1 (trc f n0 none)))) := by
  refine Ct.of (ini := False) (by decide +kernel) False.elim rfl (Nat.le_of_ble_eq_true rfl) ?_
  intro p e s m args below meth c C X
  refine b_J7_copyOf_6403c_0.go C ⟨trivial, ?_⟩
  refine V_ldcM C qx_ldc d_J7_copyOf_6403c_1 ?_
  refine b_J7_copyOf_6403c_3.go C ⟨fun h1 => absurd rfl h1, fun h1 => ⟨trivial, ?_⟩⟩
  refine b_J7_copyOf_6403c_6.go C ⟨n1, rfl, hn, Nat.le_refl _, by show 0 + n1 ≤ n1; omega, fun q hq => ⟨trivial, ?_⟩⟩
  have hqa := ne_none ha hq
  refine b_J7_copyOf_6403c_24.go C ⟨n0, Or.inl ⟨6, _, by decide, (up_ne hqa).trans ha⟩, trivial, ?_⟩
  refine k_J7_copyOf_6403c_32.go C X (c_min d _ (nI n0) (nI n1)) (rest := [.inl (nI 0), .inr (.inr (some q)), .inl (nI 0), .inr (.inr (some a))]) rfl rfl rfl (fun h => absurd rfl h) (lb rfl) (Rq.of (Nat.le_refl _) (by decide) (Nat.le_refl _) (by show 0 + n1 + 0 ≤ n1; omega)) ?_
  rintro r G' ⟨rfl, rfl⟩
  rw [if_neg (nI_nlt (by omega) (by omega))]
  refine V_copyq (rest := []) (sp := 0) (dp := 0) (q := n0) (f := f) (g := fun _ => none) C X qx_acA d_J7_copyOf_6403c_35 rfl (R40 d _ _) (lb rfl) ((up_ne hqa).trans ha) up_eq (by omega) hn (by omega) (by omega) (fun j hj y hy => ?_) ?_
  · rw [Nat.zero_add] at hy
    obtain ⟨ci, fs, g1, g2⟩ := hel j hj y hy
    exact ⟨ci, fs, (up_ne (ne_none g1 hq)).trans g1, g2⟩
  rw [bx_uu, cpy_trc]
  refine b_J7_copyOf_6403c_38.go C ⟨trivial, ?_⟩
  exact V_aret C X (Or.inr ⟨_, rfl⟩) d_J7_copyOf_6403c_39 (Nat.le_refl _) (by show 0 + n1 + 0 ≤ n1; omega) ⟨q, hq, rfl, rfl⟩
theorem c_copyOfQ (d : Nat) (G : GH) (a n0 n1 : Nat) (f : Nat → Option Nat) (ha : G a = some (oar 6 n0 f)) (h : n0 < n1) (hn : n1 ≤ 100000) (hel : ∀ j, j < n0 → ∀ y, f j = some y → ∃ ci fs, G y = some (.inr (ci, fs)) ∧ ci ∈ [6, 7]) : Cd l yJ7_copyOf_1904c cJ7_copyOf_1904c 2 (some (.array (.object "java/lang/Object"))) (d + 2) 1 n1 Y [.inr (.inr (some a)), .inl (nI n1)] G (fun r G' => ∃ q, G q = none ∧ r = some (.inr (.inr (some q))) ∧ G' = va_up G q (some (oar 6 n1 (trc f n0 none)))) := by
  refine Ct.of (ini := False) (by decide +kernel) False.elim rfl (Nat.le_of_ble_eq_true rfl) ?_
  intro p e s m args below meth c C X
  refine b_J7_copyOf_1904c_0.go C ⟨trivial, ?_⟩
  refine V_getC (rest := [.inl (nI n1), .inr (.inr (some a))]) C X qx_gcL d_J7_copyOf_1904c_3 rfl (R40 (d + 1) _ _) (lb rfl) ha ?_
  refine k_J7_copyOf_1904c_6.go C X (c_copyOfQ3 d G a n0 n1 f ha h hn hel) (rest := []) rfl rfl rfl (fun h => absurd rfl h) (lb rfl) (Rq.of (Nat.le_refl _) (by decide) (by show 0 + 1 ≤ 1; omega) (by show 0 + n1 ≤ n1; omega)) ?_
  rintro r G' ⟨q, hq, rfl, rfl⟩
  exact V_aret C X (Or.inr ⟨_, rfl⟩) d_J7_copyOf_1904c_9 (by show 0 + 1 ≤ 1; omega) (by show 0 + n1 ≤ n1; omega) ⟨q, hq, rfl, rfl⟩
theorem c_newLength (d : Nat) (G : GH) (a b k : Nat) (ha : a ≤ 100000) (hb : b ≤ 100000) (hk : k ≤ 100000) (h : 0 < a + b) : Cd l yJ8_newLength_cabcc cJ8_newLength_cabcc 4 (some .int) (d + 1) 0 0 Y [.inl (nI a), .inl (nI b), .inl (nI k)] G (fun r G' => G' = G ∧ r = some (.inl (nI (a + max b k)))) := by
  refine Ct.of (ini := False) (by decide +kernel) False.elim rfl (Nat.le_of_ble_eq_true rfl) ?_
  intro p e s m args below meth c C X
  refine b_J8_newLength_cabcc_0.go C ⟨trivial, ?_⟩
  refine k_J8_newLength_cabcc_3.go C X (c_max d G (nI b) (nI k)) (rest := [.inl (nI a)]) rfl rfl rfl (fun h => absurd rfl h) (lb rfl) (Rq.of (Nat.le_refl _) (by decide) (Nat.le_refl _) (Nat.le_refl _)) ?_
  rintro r G' ⟨rfl, rfl⟩
  have e1 : (if nI b < nI k then nI k else nI b) = nI (max b k) := by
    by_cases hh : b < k
    · rw [if_pos (nI_lt hh (by omega)), Nat.max_eq_right (by omega)]
    · rw [if_neg (nI_nlt (by omega) (by omega)), Nat.max_eq_left (by omega)]
  rw [e1]
  have hm : max b k ≤ 100000 := by omega
  refine b_J8_newLength_cabcc_6.go C ⟨_, nI_add a (max b k), fun h1 => absurd ((nI_leI (by omega) (by omega)).mp h1) (by omega), fun h1 => ⟨trivial, ?_⟩⟩
  refine b_J8_newLength_cabcc_13.go C ⟨fun h1 => absurd ((nI_ltI (by omega) (by omega)).mp h1) (by omega), fun h1 => ⟨trivial, ?_⟩⟩
  refine b_J8_newLength_cabcc_19.go C ⟨trivial, ?_⟩
  exact V_iret C X d_J8_newLength_cabcc_20 (Nat.zero_le _) (Nat.zero_le _) ⟨rfl, rfl⟩
/-- how many places a full list of cap places gets -/
def grC (cap : Nat) : Nat := if cap = 0 then 10 else cap + max 1 (cap / 2)
theorem grC_lt (cap : Nat) : cap < grC cap := by unfold grC; split <;> omega
theorem grC_le {cap : Nat} (h : cap ≤ 1000) : grC cap ≤ 1510 := by unfold grC; split <;> omega
theorem c_grow1 (d : Nat) (G : GH) (la ea cap : Nat) (mo : Int32) (f : Nat → Option Nat) (hl : G la = some (alC mo ea cap)) (he : alE Y G ea cap f) (hc : cap ≤ 1000) (hel : ∀ j, j < cap → ∀ y, f j = some y → ∃ ci fs, G y = some (.inr (ci, fs)) ∧ ci ∈ [6, 7]) : Cd l yJx4a65c_grow_92f84 cJx4a65c_grow_92f84 4 (some (.array (.object "java/lang/Object"))) (d + 3) 1 (grC cap) Y [.inr (.inr (some la)), .inl (nI (cap + 1))] G (fun r G' => ∃ q, G q = none ∧ r = some (.inr (.inr (some q))) ∧ G' = va_up (va_up G q (some (oar 6 (grC cap) (trc f cap none)))) la (some (alC mo q cap))) := by
  refine Ct.of (ini := False) (by decide +kernel) False.elim rfl (Nat.le_of_ble_eq_true rfl) ?_
  intro p e s m args below meth c C X
  have hg := grC_le hc
  rcases he with ⟨h0, h1⟩ | ⟨he, hpos⟩
  · subst h0
    subst h1
    refine b_Jx4a65c_grow_92f84_0.go C ⟨_, hl, 0, Or.inr ⟨rfl, rfl⟩, fun h2 => absurd h2 (by decide +kernel), fun h2 => ⟨trivial, ?_⟩⟩
    refine b_Jx4a65c_grow_92f84_10.go C ⟨_, hl, fun h3 => ⟨trivial, ?_⟩, fun h3 => absurd rfl h3⟩
    refine b_Jx4a65c_grow_92f84_45.go C ⟨trivial, ?_⟩
    refine k_Jx4a65c_grow_92f84_49.go C X (c_max d G (nI 10) (nI (0 + 1))) (rest := [.inr (.inr (some la))]) rfl rfl rfl (fun h => absurd rfl h) (lb rfl) (Rq.of (by omega) (by decide) (lb rfl) (lb rfl)) ?_
    rintro r G' ⟨rfl, rfl⟩
    rw [if_neg (by decide +kernel)]
    refine b_Jx4a65c_grow_92f84_52.go C ⟨10, rfl, by decide, lb rfl, lb rfl, fun q hq => ⟨_, (up_ne (ne_none hl hq)).trans hl, trivial, ?_⟩⟩
    refine V_aret C X (Or.inr ⟨_, rfl⟩) d_Jx4a65c_grow_92f84_59 (lb rfl) (lb rfl) ⟨q, hq, rfl, ?_⟩
    have e1 : trc f 0 none = fun _ => none := funext (fun j => if_neg (Nat.not_lt_zero _))
    rw [e1]; rfl
  · refine b_Jx4a65c_grow_92f84_0.go C ⟨_, hl, cap, Or.inl ⟨6, _, by decide, he⟩, fun h2 => ⟨trivial, ?_⟩, fun h2 => absurd (nI_0 ▸ nI_lt hpos (by omega)) h2⟩
    refine b_Jx4a65c_grow_92f84_20.go C ⟨_, pk_sub (by omega), _, pk_shrN (by omega) _ 1 (by decide +kernel), trivial, ?_⟩
    refine k_Jx4a65c_grow_92f84_27.go C X (c_newLength d G cap (cap + 1 - cap) (cap / 2 ^ 1) (by omega) (by omega) (by omega) (by omega)) (rest := []) rfl rfl rfl (fun h => absurd rfl h) (lb rfl) (Rq.of (by omega) (by decide) (Nat.zero_le _) (Nat.zero_le _)) ?_
    rintro r G' ⟨rfl, rfl⟩
    have e1 : cap + max (cap + 1 - cap) (cap / 2 ^ 1) = grC cap := by rw [grC, if_neg (by omega), show cap + 1 - cap = 1 by omega]
    rw [e1]
    refine b_Jx4a65c_grow_92f84_30.go C ⟨_, hl, trivial, ?_⟩
    refine k_Jx4a65c_grow_92f84_37.go C X (c_copyOfQ d G' ea cap (grC cap) f he (grC_lt cap) (by omega) hel) (rest := [.inr (.inr (some la))]) rfl rfl rfl (fun h => absurd rfl h) (lb rfl) (Rq.of (Nat.le_refl _) (by decide) (by show 0 + 0 + 1 ≤ 1; omega) (by show 0 + 0 + grC cap ≤ grC cap; omega)) ?_
    rintro r G2 ⟨q, hq, rfl, rfl⟩
    refine b_Jx4a65c_grow_92f84_40.go C ⟨_, (up_ne (ne_none hl hq)).trans hl, trivial, ?_⟩
    exact V_aret C X (Or.inr ⟨_, rfl⟩) d_Jx4a65c_grow_92f84_44 (by show 0 + 0 + 1 ≤ 1; omega) (by show 0 + 0 + grC cap ≤ grC cap; omega) ⟨q, hq, rfl, rfl⟩
theorem c_grow (d : Nat) (G : GH) (la ea cap : Nat) (mo : Int32) (f : Nat → Option Nat) (hl : G la = some (alC mo ea cap)) (he : alE Y G ea cap f) (hc : cap ≤ 1000) (hel : ∀ j, j < cap → ∀ y, f j = some y → ∃ ci fs, G y = some (.inr (ci, fs)) ∧ ci ∈ [6, 7]) : Cd l yJx4a65c_grow_d5877 cJx4a65c_grow_d5877 1 (some (.array (.object "java/lang/Object"))) (d + 4) 1 (grC cap) Y [.inr (.inr (some la))] G (fun r G' => ∃ q, G q = none ∧ r = some (.inr (.inr (some q))) ∧ G' = va_up (va_up G q (some (oar 6 (grC cap) (trc f cap none)))) la (some (alC mo q cap))) := by
  refine Ct.of (ini := False) (by decide +kernel) False.elim rfl (Nat.le_of_ble_eq_true rfl) ?_
  intro p e s m args below meth c C X
  refine b_Jx4a65c_grow_d5877_0.go C ⟨_, hl, _, nI_1 cap, trivial, ?_⟩
  refine k_Jx4a65c_grow_d5877_7.go C X (c_grow1 d G la ea cap mo f hl he hc hel) (rest := []) rfl rfl rfl (fun _ => ⟨la, 0, _, rfl, hl, by decide⟩) (lb rfl) (Rq.of (Nat.le_refl _) (by decide) (by show 0 + 1 ≤ 1; omega) (by show 0 + grC cap ≤ grC cap; omega)) ?_
  rintro r G' ⟨q, hq, rfl, rfl⟩
  exact V_aret C X (Or.inr ⟨_, rfl⟩) d_Jx4a65c_grow_d5877_10 (by show 0 + 1 ≤ 1; omega) (by show 0 + grC cap ≤ grC cap; omega) ⟨q, hq, rfl, rfl⟩
/-- what add leaves: the list at la, its array -/
def addP (G G' : GH) (la ea n cap b : Nat) (mo : Int32) (f : Nat → Option Nat) : Prop := (n < cap ∧ G' = va_up (va_up G ea (some (oar 6 cap (va_up f n (some b))))) la (some (alC mo ea (n + 1)))) ∨ (n = cap ∧ ∃ q, G q = none ∧ G' = va_up (va_up G q (some (oar 6 (grC cap) (va_up (trc f cap none) n (some b))))) la (some (alC mo q (n + 1))))
theorem c_add3 (d : Nat) (G : GH) (la ea n cap b ci : Nat) (mo : Int32) (fs : List AV) (f : Nat → Option Nat) (hl : G la = some (alC mo ea n)) (he : alE Y G ea cap f) (hnc : n ≤ cap) (hc : cap ≤ 1000) (hel : ∀ j, j < cap → ∀ y, f j = some y → ∃ ci fs, G y = some (.inr (ci, fs)) ∧ ci ∈ [6, 7]) (hb : G b = some (.inr (ci, fs))) (hci : ci ∈ [6, 7]) : Cd l yJx4a65c_add_72be8 cJx4a65c_add_72be8 4 none (d + 5) 1 (grC cap) Y [.inr (.inr (some la)), .inr (.inr (some b)), .inr (.inr (some ea)), .inl (nI n)] G (fun r G' => r = none ∧ addP G G' la ea n cap b mo f) := by
  refine Ct.of (ini := False) (by decide +kernel) False.elim rfl (Nat.le_of_ble_eq_true rfl) ?_
  intro p e s m args below meth c C X
  have hg := grC_le hc
  have hlen : (∃ t x, t < 7 ∧ G ea = some (.inl (t, cap, x))) ∨ (ea = Y.2.2 0 ∧ cap = 0) := by
    rcases he with ⟨h0, h1⟩ | ⟨h0, -⟩
    · exact Or.inr ⟨h1, h0⟩
    · exact Or.inl ⟨6, _, by decide, h0⟩
  refine b_Jx4a65c_add_72be8_0.go C ⟨cap, hlen, fun h1 => ⟨trivial, ?_⟩, fun h1 => ⟨trivial, ?_⟩⟩
  · have hlt : n < cap := by
      rcases Nat.lt_or_ge n cap with h | h
      · exact h
      · exact absurd (by rw [show n = cap by omega]) h1
    rcases he with ⟨h0, -⟩ | ⟨he, -⟩
    · omega
    have hea : la ≠ ea := fun z => by rw [z, he] at hl; cases hl
    refine b_Jx4a65c_add_72be8_11.go C ⟨fun y hy => by cases hy; exact ⟨ci, fs, hb, hci⟩, cap, f, he, n, rfl, hlt, by omega, _, nI_1 n, _, (up_ne hea).trans hl, trivial, ?_⟩
    exact V_vret C X d_Jx4a65c_add_72be8_22 (Nat.zero_le _) (Nat.zero_le _) ⟨rfl, Or.inl ⟨hlt, rfl⟩⟩
  · obtain rfl : n = cap := (nI_eq (by omega) (by omega)).mp h1
    refine b_Jx4a65c_add_72be8_6.go C ⟨trivial, ?_⟩
    refine k_Jx4a65c_add_72be8_7.go C X (c_grow d G la ea n mo f hl he hc hel) (rest := []) rfl rfl rfl (fun _ => ⟨la, 0, _, rfl, hl, by decide⟩) (lb rfl) (Rq.of (Nat.le_refl _) (by decide) (by show 0 + 1 ≤ 1; omega) (by show 0 + grC n ≤ grC n; omega)) ?_
    rintro r G' ⟨q, hq, rfl, rfl⟩
    have hqb := ne_none hb hq
    have hql := ne_none hl hq
    have hlb : b ≠ la := fun z => by rw [z, hl] at hb; cases hb; simp at hci
    refine b_Jx4a65c_add_72be8_10.go C ⟨trivial, ?_⟩
    refine b_Jx4a65c_add_72be8_11.go C ⟨fun y hy => by cases hy; exact ⟨ci, fs, (up_ne hlb).trans ((up_ne hqb).trans hb), hci⟩, grC n, trc f n none, (up_ne (Ne.symm hql)).trans up_eq, n, rfl, grC_lt n, by omega, _, nI_1 n, _, (up_ne hql).trans up_eq, trivial, ?_⟩
    refine V_vret C X d_Jx4a65c_add_72be8_22 (by show 0 + 1 ≤ 1; omega) (by show 0 + grC n ≤ grC n; omega) ⟨rfl, Or.inr ⟨rfl, q, hq, ?_⟩⟩
    rw [up_comm hql, bx_uu, bx_uu]; rfl
theorem c_add (d : Nat) (G : GH) (la ea n cap b ci : Nat) (mo : Int32) (fs : List AV) (f : Nat → Option Nat) (hl : G la = some (alC mo ea n)) (he : alE Y G ea cap f) (hnc : n ≤ cap) (hc : cap ≤ 1000) (hel : ∀ j, j < cap → ∀ y, f j = some y → ∃ ci fs, G y = some (.inr (ci, fs)) ∧ ci ∈ [6, 7]) (hb : G b = some (.inr (ci, fs))) (hci : ci ∈ [6, 7]) : Cd l yJx4a65c_add_9ea2d cJx4a65c_add_9ea2d 2 (some .boolean) (d + 6) 1 (grC cap) Y [.inr (.inr (some la)), .inr (.inr (some b))] G (fun r G' => r = some (.inl (nI 1)) ∧ addP G G' la ea n cap b (mo + nI 1) f) := by
  refine Ct.of (ini := False) (by decide +kernel) False.elim rfl (Nat.le_of_ble_eq_true rfl) ?_
  intro p e s m args below meth c C X
  have hlb : ∀ (y ci : Nat) (fs : List AV), G y = some (.inr (ci, fs)) → ci ∈ [6, 7] → y ≠ la := fun y ci fs h1 h2 z => by rw [z, hl] at h1; cases h1; simp at h2
  have he' : alE Y (va_up G la (some (alC (mo + nI 1) ea n))) ea cap f := by
    rcases he with h | ⟨h, h2⟩
    · exact Or.inl h
    · exact Or.inr ⟨(up_ne (fun z => by rw [z, hl] at h; cases h)).trans h, h2⟩
  refine b_Jx4a65c_add_9ea2d_0.go C ⟨_, hl, _, rfl, _, hl, _, up_eq, _, up_eq, trivial, ?_⟩
  refine k_Jx4a65c_add_9ea2d_20.go C X (c_add3 d (va_up G la (some (alC (mo + nI 1) ea n))) la ea n cap b ci (mo + nI 1) fs f up_eq he' hnc hc (fun j hj y hy => by obtain ⟨c9, f9, g1, g2⟩ := hel j hj y hy; exact ⟨c9, f9, (up_ne (hlb y c9 f9 g1 g2)).trans g1, g2⟩) ((up_ne (hlb b ci fs hb hci)).trans hb) hci) (rest := []) rfl rfl rfl (fun _ => ⟨la, 0, _, rfl, up_eq, by decide⟩) (lb rfl) (Rq.of (Nat.le_refl _) (by decide) (by show 0 + 1 ≤ 1; omega) (by show 0 + grC cap ≤ grC cap; omega)) ?_
  rintro r G' ⟨rfl, hP⟩
  refine b_Jx4a65c_add_9ea2d_23.go C ⟨trivial, ?_⟩
  refine V_zret C X d_Jx4a65c_add_9ea2d_24 z1 (by show 0 + 1 ≤ 1; omega) (by show 0 + grC cap ≤ grC cap; omega) ⟨rfl, ?_⟩
  rcases hP with ⟨h1, rfl⟩ | ⟨h1, q, hq, rfl⟩
  · refine Or.inl ⟨h1, ?_⟩
    have hea : la ≠ ea := by
      rcases he with ⟨h0, -⟩ | ⟨h0, -⟩
      · omega
      · exact fun z => by rw [z, h0] at hl; cases hl
    rw [up_comm hea, bx_uu]
  · have hlq : la ≠ q := fun z => by rw [← z, up_eq] at hq; cases hq
    refine Or.inr ⟨h1, q, (up_ne (Ne.symm hlq)).symm.trans hq, ?_⟩
    rw [up_comm hlq, bx_uu]
end LISTS
