/-! the packages that the reference's contracts ask for -/
section PKGS
variable {n k w x y : Nat} {M M1 M' : MS} {t : Nat} {m3 m4 : Nat → Int32}
theorem AskR.inv (h : AskR M M' t) (hI : Inv n k w 0 0 M) (h1t : 1 ≤ t) (ht : t ≤ n) (ho : nN M 8 t = 0) : Inv n k w 0 0 M' := by
  rcases h with rfl | ⟨h12, h0, rfl⟩ | ⟨h, hh, E, hf⟩ | ⟨M1, kd, ca, l, E, hk, hl, hca, hm, E2, e12⟩
  · exact hI
  · exact hI.rdy h1t ht ho (by omega) (Or.inl h0)
  · exact E.inv hI h1t ht ho hh hf (Nat.add_le_add_left (nst_le _ _ _ _ hh.1) 0)
  · have I1 := E.inv hI hk hl hca hm
    have e8 : nN M1 8 = nN M 8 := nN_e (E.2.2.2.2.2.2.2.2.2.2 8 rfl)
    exact E2.inv I1 h1t ht (by rw [e8]; exact ho) ⟨by decide, by decide⟩ (fun _ => by rw [e12, E.2.2.2.2.2.1]; omega) (Nat.add_le_add_left (nst_le _ _ _ _ (by decide)) 0)
theorem AskR.fr (h : AskR M M' t) : M' 3 = M 3 ∧ M' 4 = M 4 ∧ M' 17 = M 17 ∧ M' 0 = M 0 ∧ nN M 16 0 ≤ nN M' 16 0 := by
  rcases h with rfl | ⟨h12, h0, rfl⟩ | ⟨h, hh, E, hf⟩ | ⟨M1, kd, ca, l, E, hk, hl, hca, hm, E2, e12⟩
  · exact ⟨rfl, rfl, rfl, rfl, Nat.le_refl _⟩
  · exact ⟨by rw [up2_f (by decide), up2_f (by decide)], by rw [up2_f (by decide), up2_f (by decide)], by rw [up2_f (by decide), up2_f (by decide)], by rw [up2_f (by decide), up2_f (by decide)], by rw [nN_f (by decide), nN_f (by decide)]; exact Nat.le_refl _⟩
  · have f := E.2.2.2.2.2.2
    exact ⟨f 3 rfl, f 4 rfl, f 17 rfl, f 0 rfl, by rw [E.1.2.2.2.2]; omega⟩
  · have f := E2.2.2.2.2.2.2
    have g := E.2.2.2.2.2.2.2.2.2.2
    exact ⟨(f 3 rfl).trans (g 3 rfl), (f 4 rfl).trans (g 4 rfl), (f 17 rfl).trans (g 17 rfl), (f 0 rfl).trans (g 0 rfl), by rw [E2.1.2.2.2.2, nN_e (g 16 rfl)]; omega⟩
theorem Inv.mk (hI : Inv n k w x y M) (hx : x ≤ 1) (hy : y ≤ 1) (h1t : 1 ≤ t) (ht : t ≤ n) (ho : nN M 8 t = 0) : markOk M t := by
  have bd := hI.bd hx hy
  have hn := hI.a.1
  have hlt := hI.e.lt h1t ht ho
  refine ⟨by omega, ⟨_, hI.nt 16 0 rfl, by omega⟩, ⟨_, hI.nt 53 0 rfl, by omega⟩, fun h => ?_⟩
  have h9 := (atC_iff hI.nt t).mp h
  have q1 := (((hI.d t h1t ht).2.2.2.2 h9.1).2 ho).1 h9.2
  have q2 := hI.a.2.2.1
  exact ⟨_, _, hI.nt 25 t rfl, by omega, hI.nt 47 _ rfl, hI.q47 _ (by omega)⟩
theorem Inv.ino (hI : Inv n k w x y M) (ht : t ≤ n) : inOk M t ∧ ∀ j, j < kI M t → iN M t j < t := by
  have hn := hI.a.1
  by_cases h0 : t = 0
  · subst h0
    have h4 : kI M 0 = 0 := hI.s.1
    exact ⟨⟨by omega, hI.nt 4 0 rfl, by omega, fun j hj => by omega⟩, fun j hj => by omega⟩
  · have hs := hI.s.2 t (by omega) ht
    have e4 : kI M t = nN M 4 t := rfl
    refine ⟨⟨by omega, hI.nt 4 t rfl, by rw [e4]; exact hs.1.2.1, fun j hj => ⟨hI.nt 3 _ rfl, (hs.2.1 j hj).1, ?_⟩⟩, fun j hj => (hs.2.1 j hj).2⟩
    have : iN M t j < t := (hs.2.1 j hj).2
    omega
theorem Inv.fl (hI : Inv n k w x y M) (hx : x ≤ 1) (hy : y ≤ 1) : ∀ s, s ≤ 200 → flOk M s := by
  intro s hs h2
  have h8 : nN M 8 s = 2 := (hI.nt.eq rfl (by decide)).mp h2
  have bd := hI.bd hx hy
  have h1 : 1 ≤ s := by
    rcases Nat.eq_zero_or_pos s with h | h
    · subst h; rw [hI.e.2.2.2.1] at h8; omega
    · exact h
  have h2 : s ≤ n := by
    rcases Nat.lt_or_ge n s with h | h
    · have := (hI.zz s (Or.inr h) hs).1.2.2.1; omega
    · exact h
  have f := hI.f12 h1 h2 h8
  exact ⟨f.2, by omega, hI.nt 33 _ rfl, (hI.f.1 _ f.1).1⟩
theorem Inv.ask (hI : Inv n k w 0 0 M) (h1t : 1 ≤ t) (ht : t ≤ n) (ho : nN M 8 t = 0) (h4 : 1 ≤ nN M 4 t) : askP M t := by
  have bd := hI.bd (by decide) (by decide)
  have hs := hI.s.2 t h1t ht
  have hn := hI.a.1
  refine ⟨⟨hI.mk (by decide) (by decide) h1t ht ho, ⟨_, hI.nt 38 0 rfl, by omega⟩, ⟨_, hI.nt 40 0 rfl, by omega⟩⟩, ⟨(hI.ino ht).1, h4⟩, ⟨_, _, hI.nt 16 0 rfl, by omega, hI.nt 40 0 rfl, by omega, fun p h1 h2 => ?_, _, hI.nt 10 0 rfl, ?_⟩, ⟨hI.nt 2 t rfl, hs.1.1⟩, ⟨hI.nt 5 t rfl, hs.2.2.2.1.1, fun q => hs.2.2.2.1.2 (Or.inl q)⟩, ⟨hI.nt 7 t rfl, hs.2.2.2.2.1.1, fun q => (hs.2.2.2.2.1.2.1 q).2⟩, hI.fl (by decide) (by decide)⟩
  · have q := hI.e.1 p h1 h2
    exact ⟨hI.nt 15 p rfl, by omega, _, hI.nt 10 _ rfl, by omega⟩
  · rw [hI.e.2.2.2.2]; exact Nat.zero_le _
/-- the invariant as the packages take it -/
def IR (n k w e0 : Nat) (m3 m4 : Nat → Int32) (dt : Nat) (M : MS) : Prop := Inv n k w 0 0 M ∧ M 3 = m3 ∧ M 4 = m4 ∧ nN M 17 0 = dt ∧ dt ≤ nN M 16 0 ∧ e0 ≤ nN M 16 0
theorem some_pos (hI : Inv n k w x y M) (h : someB M t = true) : 1 ≤ nN M 4 t ∧ 1 ≤ t := by
  obtain ⟨s, h1, _⟩ := (some_iff hI.nt).mp h
  obtain ⟨j, h2, _⟩ := inL_mem.mp h1
  refine ⟨by omega, ?_⟩
  rcases Nat.eq_zero_or_pos t with q | q
  · subst q; rw [hI.s.1] at h2; omega
  · exact q
theorem IR_IP {e0 dt : Nat} (hn : n ≤ 200) : IP n m3 m4 (IR n k w e0 m3 m4 dt) := by
  refine ⟨hn, fun M ⟨hI, h3, h4, h17, hd, he⟩ => ⟨(hI.nt.eq rfl (by omega)).mpr hI.a.2.2.2.2.1, fun t ht => hI.ino ht, h3, h4, _, _, hI.nt 16 0 rfl, ?_, hI.nt 17 0 rfl, by omega, fun p h1 h2 => ⟨hI.nt 15 p rfl, (hI.e.1 p h1 h2).2.1⟩⟩, fun M t ⟨hI, h3, h4, h17, hd, he⟩ ht hsm ho => ?_, fun M t ⟨hI, h3, h4, h17, hd, he⟩ h1t ht ho => ?_⟩
  · have := hI.e.le; omega
  · have ho' := (hI.nt.z rfl).mp ho
    have hp := some_pos hI hsm
    have R := ask_R hI hp.2 ht ho' hsm
    have f := R.fr
    exact ⟨hI.ask hp.2 ht ho' hp.1, R.inv hI hp.2 ht ho', f.1.trans h3, f.2.1.trans h4, by rw [nN_e f.2.2.1]; exact h17, by omega, by omega⟩
  · have ho' := (hI.nt.z rfl).mp ho
    have R := ask_off hI h1t ht ho'
    have f := R.fr
    exact ⟨hI.mk (by decide) (by decide) h1t ht ho', R.inv hI h1t ht ho', f.1.trans h3, f.2.1.trans h4, by rw [nN_e f.2.2.1]; exact h17, by omega, by omega⟩
theorem IR_FP {e0 : Nat} (hn : n ≤ 200) : FP n m3 m4 (IR n k w e0 m3 m4) := by
  refine ⟨⟨fun dt => IR_IP hn, fun dt M ⟨hI, h3, h4, h17, hd, he⟩ => (hI.nt.eq rfl (by have := hI.e.le; omega)).mpr h17, fun dt e M ⟨hI, h3, h4, h17, hd, he⟩ h16 h200 hlt => ?_⟩, fun dt M ⟨hI, h3, h4, h17, hd, he⟩ => by have := hI.e.le; omega⟩
  have b := hI.e.le
  have h16' : nN M 16 0 = e := nN_of h16 (by omega)
  refine ⟨hI.cg (hI.nt.upn (by omega)) (fun f hf => up2_f (fne hf rfl)), by rw [up2_f (by decide)]; exact h3, by rw [up2_f (by decide)]; exact h4, by rw [nN_sn (by omega), vu_s], by rw [nN_f (by decide)]; omega, by rw [nN_f (by decide)]; exact he⟩
end PKGS
