/-! the reference: any -/
section REFK
variable {l : Launch} {Y : YT}
/-- along the places: how many values, the stage of the wanted one, how many without, the last that failed -/
def anyF (M : MS) (t : Nat) : Nat → Nat → Nat → Nat → Nat → Nat → Nat × Nat × Nat × Nat
  | 0, _, va, nt, wo, la => (va, nt, wo, la)
  | q + 1, p, va, nt, wo, la =>
    if inpB M t (M 15 p) = true then
      anyF M t q (p + 1) (if M 8 (nN M 15 p) = nI 1 then va + 1 else va)
        (if M 8 (nN M 15 p) = nI 1 ∧ nI (if M 8 (nN M 15 p) = nI 1 then va + 1 else va) = M 7 t then nN M 15 p else nt)
        (if M 8 (nN M 15 p) = nI 1 then wo else wo + 1) (if M 8 (nN M 15 p) = nI 2 then nN M 15 p else la)
    else anyF M t q (p + 1) va nt wo la
def anyR (M : MS) (t : Nat) : Nat × Nat × Nat × Nat := anyF M t (nN M 16 0) 1 0 0 0 0
def anyM (M : MS) (t : Nat) : MS :=
  if ¬ (anyR M t).2.1 = 0 then wvM M t (M 11 (anyR M t).2.1) else if kI M t - nN M 7 t < (anyR M t).2.2.1 then nonM M t (anyR M t).2.2.2 else M
set_option maxHeartbeats 2000000 in
theorem r_askAny (d : Nat) (G : GH) (x : Nat) (ra : Nat → Nat) (M : MS) (t e0 w a : Nat) (hR : RR G x ra M) (mk : markOk M t) (hI : inOk M t) (he : M 16 0 = nI e0) (he2 : e0 ≤ 200) (h7 : M 7 t = nI w) (hw : w ≤ kI M t) (hf : M 38 0 = nI (nN M 38 0)) (hf2 : nN M 38 0 < 2000) (ha : M 40 0 = nI a) (ha2 : a + 201 < 8000)
    (hE : ∀ p, 1 ≤ p → p ≤ e0 → M 15 p = nI (nN M 15 p) ∧ nN M 15 p ≤ 200 ∧ ∃ pl, M 10 (nN M 15 p) = nI pl ∧ pl ≤ e0) (h0 : ∃ pl, M 10 0 = nI pl ∧ pl ≤ e0) : Cd l yX9_askAny cX9_askAny 8 none (d + 4) 0 0 Y [.inr (.inr (some x)), .inl (nI t)] G (fun r G' => r = none ∧ RR G' x ra (anyM M t)) := by
  refine Ct.of (ini := False) (by decide +kernel) False.elim rfl (Nat.le_of_ble_eq_true rfl) ?_
  intro p e s m args below meth c C X
  have hlt : t < 201 := by have := mk.1; omega
  have ee : nN M 16 0 = e0 := nN_of he (by omega)
  obtain ⟨-, hk, hk2, hj9⟩ := id hI
  have e7 : nN M 7 t = w := nN_of h7 (by omega)
  refine b_X9_askAny_0.go C ⟨trivial, ?_⟩
  refine (show ∀ (q pp va nt wo la : Nat) (o : Option AV), pp + q = e0 + 1 → 1 ≤ pp → va + 1 ≤ pp → wo + 1 ≤ pp → nt ≤ 200 → la ≤ 200 → (∃ pl, M 10 la = nI pl ∧ pl ≤ e0) → anyR M t = anyF M t q pp va nt wo la → V p l e _ s m args below meth c Y _ _ 13 G 0 0 [some (.inr (.inr (some x))), some (.inl (nI t)), some (.inl (nI va)), some (.inl (nI nt)), some (.inl (nI wo)), some (.inl (nI la)), some (.inl (nI pp)), o] [] from ?_) e0 1 0 0 0 0 none (by omega) (by omega) (by omega) (by omega) (by omega) (by omega) h0 (by rw [anyR, ee])
  intro q
  induction q with
  | zero =>
    intro pp va nt wo la o hq h1 hva hwo hnt hla hpl hs
    have er : anyR M t = (va, nt, wo, la) := hs
    refine b_X9_askAny_13.go C ⟨_, hR.1, fun h2 => ⟨trivial, ?_⟩, fun h2 => absurd (show M 16 0 < nI pp by rw [he]; exact nI_lt (by omega) (by omega)) h2⟩
    refine b_X9_askAny_136.go C ⟨fun h3 => ⟨trivial, ?_⟩, fun h3 => ⟨trivial, ?_⟩⟩
    · have hn0 : nt = 0 := (nI_eq (by omega) (by omega)).mp (h3.trans nI_0.symm)
      refine b_X9_askAny_154.go C ⟨_, hR.1, _, _, hR.2.1 4 (by decide) rfl, t, rfl, hlt, lb rfl, _, hk, _, hR.1, _, _, hR.2.1 7 (by decide) rfl, t, rfl, hlt, lb rfl, _, h7, _, pk_sub hw, fun h4 => ⟨trivial, ?_⟩, fun h4 => ⟨trivial, ?_⟩⟩
      · have h5 : wo ≤ kI M t - w := (nI_leI (by omega) (by omega)).mp h4
        exact V_vret C X d_X9_askAny_179 (Nat.zero_le _) (Nat.zero_le _) ⟨rfl, by rw [anyM, er, if_neg (fun h => h hn0), if_neg (by show ¬ (kI M t - nN M 7 t < wo); rw [e7]; omega)]; exact hR⟩
      · have h5 : kI M t - w < wo := Nat.lt_of_not_le (fun h => h4 (nI_le h (by omega)))
        obtain ⟨pl, hpl1, hpl2⟩ := hpl
        refine b_X9_askAny_172.go C ⟨trivial, ?_⟩
        refine k_X9_askAny_176.go C X (r_none d _ x ra M t la pl a hR mk hI hf hf2 ha ha2 hla hpl1 (by omega) (fun z z1 z2 => ⟨(hE z z1 (by omega)).1, (hE z z1 (by omega)).2.1⟩)) (rest := []) rfl rfl rfl (fun _ => ⟨x, 9, _, rfl, hR.1, by decide⟩) (Nat.zero_le _) (Rq.of (Nat.le_refl _) (by decide) (Nat.le_refl _) (Nat.le_refl _)) ?_
        rintro r G' ⟨rfl, R1⟩
        exact V_vret C X d_X9_askAny_179 (Nat.zero_le _) (Nat.zero_le _) ⟨rfl, by rw [anyM, er, if_neg (fun h => h hn0), if_pos (by show kI M t - nN M 7 t < wo; rw [e7]; exact h5)]; exact R1⟩
    · have hn0 : ¬ nt = 0 := fun h => h3 (by rw [h]; exact nI_0)
      refine b_X9_askAny_140.go C ⟨_, hR.1, _, _, hR.2.1 11 (by decide) rfl, nt, rfl, by show nt < 201; omega, lb rfl, _, rfl, trivial, ?_⟩
      refine k_X9_askAny_148.go C X (r_withValue (d + 1) _ x ra M t _ hR mk) (rest := []) rfl rfl rfl (fun _ => ⟨x, 9, _, rfl, hR.1, by decide⟩) (Nat.zero_le _) (Rq.of (Nat.le_refl _) (by decide) (Nat.le_refl _) (Nat.le_refl _)) ?_
      rintro r G' ⟨rfl, R1⟩
      refine b_X9_askAny_151.go C ⟨trivial, ?_⟩
      exact V_vret C X d_X9_askAny_179 (Nat.zero_le _) (Nat.zero_le _) ⟨rfl, by rw [anyM, er, if_pos hn0]; exact R1⟩
  | succ q ih =>
    intro pp va nt wo la o hq h1 hva hwo hnt hla hpl hs
    obtain ⟨g1, g2, g3⟩ := hE pp h1 (by omega)
    obtain ⟨z, ez⟩ : ∃ z, z = nN M 15 pp := ⟨_, rfl⟩
    rw [← ez] at g1 g2 g3
    have hlz : z < 201 := by omega
    refine b_X9_askAny_13.go C ⟨_, hR.1, fun h2 => absurd (show M 16 0 < nI pp from h2) (by rw [he]; exact nI_nlt (by omega) (by omega)), fun h2 => ⟨trivial, ?_⟩⟩
    refine b_X9_askAny_22.go C ⟨_, hR.1, _, _, hR.2.1 15 (by decide) rfl, pp, rfl, by show pp < 201; omega, lb rfl, _, g1, trivial, ?_⟩
    refine k_X9_askAny_35.go C X (r_isInput d G x ra M t (kI M t) (nI z) hR mk.1 hk hk2) (rest := []) rfl rfl rfl (fun _ => ⟨x, 9, _, rfl, hR.1, by decide⟩) (Nat.zero_le _) (Rq.of (by omega) (by decide) (Nat.le_refl _) (Nat.le_refl _)) ?_
    rintro r G' ⟨rfl, rfl⟩
    have back : ∀ (va' nt' wo' la' : Nat), va' ≤ va + 1 → wo' ≤ wo + 1 → nt' ≤ 200 → la' ≤ 200 → (∃ pl, M 10 la' = nI pl ∧ pl ≤ e0) → anyF M t (q + 1) pp va nt wo la = anyF M t q (pp + 1) va' nt' wo' la' → V p l e (RM (d + 4) 0 0) s m args below meth c Y (GA G' s.heap.size) (QM below args s (RM (d + 4) 0 0) Y G' (fun r G' => r = none ∧ RR G' x ra (anyM M t))) 130 G' 0 0 [some (.inr (.inr (some x))), some (.inl (nI t)), some (.inl (nI va')), some (.inl (nI nt')), some (.inl (nI wo')), some (.inl (nI la')), some (.inl (nI pp)), some (.inl (nI z))] [] := by
      intro va' nt' wo' la' b1 b2 b3 b4 b5 b6
      refine b_X9_askAny_130.go C ⟨_, nI_1 pp, trivial, ?_⟩
      exact ih (pp + 1) va' nt' wo' la' _ (by omega) (by omega) (by omega) (by omega) b3 b4 b5 (hs.trans b6)
    refine b_X9_askAny_38.go C ⟨fun h3 => ⟨trivial, ?_⟩, fun h3 => ⟨trivial, ?_⟩⟩
    · have h9 : inpB M t (nI z) = false := bI_0 h3
      exact back va nt wo la (by omega) (by omega) hnt hla hpl (by rw [anyF, g1, h9]; rfl)
    · have h9 : inpB M t (nI z) = true := bI_1 h3
      have st : anyF M t (q + 1) pp va nt wo la = anyF M t q (pp + 1) (if M 8 z = nI 1 then va + 1 else va) (if M 8 z = nI 1 ∧ nI (if M 8 z = nI 1 then va + 1 else va) = M 7 t then z else nt) (if M 8 z = nI 1 then wo else wo + 1) (if M 8 z = nI 2 then z else la) := by
        rw [anyF, g1, h9, if_pos rfl, ← ez]
      have A8 : ∀ {K : Prop}, K → K := fun k => k
      by_cases c1 : M 8 z = nI 1
      · have c2 : ¬ M 8 z = nI 2 := by rw [c1]; decide +kernel
        refine b_X9_askAny_41.go C ⟨_, hR.1, _, _, hR.2.1 8 (by decide) rfl, z, rfl, hlz, lb rfl, _, rfl, fun h4 => absurd c1 h4, fun h4 => ⟨trivial, ?_⟩⟩
        refine b_X9_askAny_52.go C ⟨_, nI_1 va, trivial, ?_⟩
        refine b_X9_askAny_59.go C ⟨_, hR.1, _, _, hR.2.1 8 (by decide) rfl, z, rfl, hlz, lb rfl, _, rfl, fun h5 => absurd c1 h5, fun h5 => ⟨trivial, ?_⟩⟩
        have tail : ∀ nt', nt' ≤ 200 → nt' = (if nI (va + 1) = M 7 t then z else nt) → V p l e (RM (d + 4) 0 0) s m args below meth c Y (GA G' s.heap.size) (QM below args s (RM (d + 4) 0 0) Y G' (fun r G' => r = none ∧ RR G' x ra (anyM M t))) 87 G' 0 0 [some (.inr (.inr (some x))), some (.inl (nI t)), some (.inl (nI (va + 1))), some (.inl (nI nt)), some (.inl (nI wo)), some (.inl (nI la)), some (.inl (nI pp)), some (.inl (nI z))] [.inl (nI nt')] := by
          intro nt' hb1 hb2
          refine b_X9_askAny_87.go C ⟨_, hR.1, _, _, hR.2.1 8 (by decide) rfl, z, rfl, hlz, lb rfl, _, rfl, fun h6 => absurd c1 h6, fun h6 => ⟨trivial, ?_⟩⟩
          refine b_X9_askAny_99.go C ⟨trivial, ?_⟩
          refine b_X9_askAny_108.go C ⟨_, hR.1, _, _, hR.2.1 8 (by decide) rfl, z, rfl, hlz, lb rfl, _, rfl, fun h7 => ⟨trivial, ?_⟩, fun h7 => absurd h7 c2⟩
          refine b_X9_askAny_126.go C ⟨trivial, ?_⟩
          refine b_X9_askAny_128.go C ⟨trivial, ?_⟩
          refine back (va + 1) nt' wo la (by omega) (by omega) hb1 hla hpl ?_
          rw [st, if_pos c1, if_pos c1, if_neg c2]
          congr 1
          rw [hb2]
          by_cases c3 : nI (va + 1) = M 7 t
          · rw [if_pos ⟨c1, c3⟩, if_pos c3]
          · rw [if_neg (fun h => c3 h.2), if_neg c3]
        refine b_X9_askAny_71.go C ⟨_, hR.1, _, _, hR.2.1 7 (by decide) rfl, t, rfl, hlt, lb rfl, _, rfl, fun h6 => ⟨trivial, ?_⟩, fun h6 => ⟨trivial, ?_⟩⟩
        · refine b_X9_askAny_86.go C ⟨trivial, ?_⟩
          exact tail nt hnt (by rw [if_neg h6])
        · refine b_X9_askAny_81.go C ⟨trivial, ?_⟩
          exact tail z (by omega) (by rw [if_pos h6])
      · refine b_X9_askAny_41.go C ⟨_, hR.1, _, _, hR.2.1 8 (by decide) rfl, z, rfl, hlz, lb rfl, _, rfl, fun h4 => ⟨trivial, ?_⟩, fun h4 => absurd h4 c1⟩
        refine b_X9_askAny_58.go C ⟨trivial, ?_⟩
        refine b_X9_askAny_59.go C ⟨_, hR.1, _, _, hR.2.1 8 (by decide) rfl, z, rfl, hlz, lb rfl, _, rfl, fun h5 => ⟨trivial, ?_⟩, fun h5 => absurd h5 c1⟩
        refine b_X9_askAny_86.go C ⟨trivial, ?_⟩
        refine b_X9_askAny_87.go C ⟨_, hR.1, _, _, hR.2.1 8 (by decide) rfl, z, rfl, hlz, lb rfl, _, rfl, fun h6 => ⟨trivial, ?_⟩, fun h6 => absurd h6 c1⟩
        refine b_X9_askAny_104.go C ⟨_, nI_1 wo, trivial, ?_⟩
        refine b_X9_askAny_108.go C ⟨_, hR.1, _, _, hR.2.1 8 (by decide) rfl, z, rfl, hlz, lb rfl, _, rfl, fun h7 => ⟨trivial, ?_⟩, fun h7 => ⟨trivial, ?_⟩⟩
        · refine b_X9_askAny_126.go C ⟨trivial, ?_⟩
          refine b_X9_askAny_128.go C ⟨trivial, ?_⟩
          refine back va nt (wo + 1) la (by omega) (by omega) hnt hla hpl ?_
          rw [st, if_neg c1, if_neg c1, if_neg h7, if_neg (fun h => c1 h.1)]
        · refine b_X9_askAny_121.go C ⟨trivial, ?_⟩
          refine b_X9_askAny_128.go C ⟨trivial, ?_⟩
          refine back va nt (wo + 1) z (by omega) (by omega) hnt (by omega) g3 ?_
          rw [st, if_neg c1, if_neg c1, if_pos h7, if_neg (fun h => c1 h.1)]
end REFK
