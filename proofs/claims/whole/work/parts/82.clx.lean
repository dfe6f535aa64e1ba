/-! the class: the constructors of Stage and Work; rows of inputs -/
section CLX
variable {l : Launch} {Y : YT}
theorem KR.oth {G : GH} {A : AS} {n F : Nat} {K : MS} {L : KL} (h : KR Y G A n F K L) {a : Nat} (hne : ∀ k i, liv n F K k i → A k i ≠ a) (c : Option AC) : KR Y (va_up G a c) A n F K L := ⟨fun k i hl => (up_ne (hne k i hl)).trans (h.1 k i hl), h.2⟩
theorem oth_none {G : GH} {A : AS} {n F : Nat} {K : MS} {L : KL} (h : KR Y G A n F K L) {a : Nat} (ha : G a = none) : ∀ k i, liv n F K k i → A k i ≠ a := fun k i hl => ne_none (h.1 k i hl) ha
def stS (σ : Nat → Int32) (num form kind am : Int32) : Nat → Int32 := upd (upd (upd (upd (upd (upd (upd (upd (upd (upd σ 6 (nI 0)) 7 (nI 0)) 9 (nI 0)) 10 (nI 0)) 11 (-1)) 12 (nI 0)) 0 num) 1 form) 3 kind) 4 am
def stR (ρ : Nat → Option Nat) (qh ia : Nat) : Nat → Option Nat := va_up (va_up (va_up ρ 5 (some qh)) 8 none) 2 (some ia)
/-- what the new stage hangs on: itself, and what its inputs hang on -/
def hg0 (nn : Nat) : Nat → Int64 := vp_updL (fun _ => 0) (nn / 64) ((0 : Int64) ||| lN 1 <<< ((nI (nn % 64)).toInt64 &&& 63))
def hgO (L : KL) (u : Nat) : Nat → Nat → (Nat → Int64) → (Nat → Int64)
  | 0, _, b => b
  | q + 1, i, b => hgO L u q (i + 1) (vp_updL b i (b i ||| L (1 + u) i))
def hgAll (L : KL) : List Nat → (Nat → Int64) → (Nat → Int64)
  | [], b => b
  | u :: t, b => hgAll L t (hgO L u 4 0 b)
def hgN (L : KL) (nn : Nat) (ls : List Nat) : Nat → Int64 := hgAll L ls (hg0 nn)
/-- a row of inputs -/
def inA (A : AS) (ls : List Nat) : AC := oar 5 ls.length (fun j => dec A 1 (elN ls j))
set_option maxHeartbeats 4000000 in
theorem k_StageInit (d : Nat) (G : GH) (A : AS) (n F : Nat) (K : MS) (L : KL) (a ia nn : Nat) (w : Bool) (σ : Nat → Int32) (ρ : Nat → Option Nat) (form kind am : Int32) (ls : List Nat) (hR : KR Y G A n F K L) (ha : G a = some (stC w σ ρ)) (hna : ∀ k i, liv n F K k i → A k i ≠ a) (hia : G ia = some (inA A ls)) (hls : ∀ u ∈ ls, 1 ≤ u ∧ u ≤ n) (hl24 : ls.length ≤ 24) (hnn : nn ≤ 201) : Cd l yX6_init cX6_init 11 none (d + 1) 1 4 Y [.inr (.inr (some a)), .inl (nI nn), .inl form, .inr (.inr (some ia)), .inl kind, .inl am] G (fun r G' => r = none ∧ ∃ qh, G qh = none ∧ G' = va_up (va_up G qh (some (.inl (1, 4, .inr (.inl (hgN L nn ls)))))) a (some (stC w (stS σ (nI nn) form kind am) (stR ρ qh ia)))) := by
  refine Ct.of (ini := True) (by decide +kernel) (fun _ => rfl) rfl (Nat.le_of_ble_eq_true rfl) ?_
  intro p e s m args below meth c C X
  have hn := hR.2.2.1
  have hai : a ≠ ia := fun z => by rw [z, hia] at ha; cases ha
  refine b_X6_init_0.go C ⟨trivial, ?_⟩
  refine V_objInit C X q_279 d_X6_init_1 rfl ⟨Nat.succ_le_succ (Nat.zero_le _), by show 20 ≤ 40 * (d + 1); omega⟩ (Nat.zero_le _) ?_
  refine b_X6_init_4.go C ⟨4, rfl, by decide, by show _ ≤ 1; omega, by show _ ≤ 4; omega, fun qh hqh => ?_⟩
  have haq : a ≠ qh := ne_none ha hqh
  have hqa : qh ≠ a := Ne.symm haq
  have hiq : ia ≠ qh := ne_none hia hqh
  refine ⟨_, _, (up_ne haq).trans ha, stC_ci _, _, _, up_eq, stC_ci _, _, _, up_eq, stC_ci _, _, _, up_eq, stC_ci _, _, _, up_eq, stC_ci _, _, _, up_eq, stC_ci _, _, _, up_eq, stC_ci _, trivial, ?_⟩
  simp only [bx_uu]
  refine b_X6_init_43.go C ⟨_, _, up_eq, stC_ci _, _, _, up_eq, stC_ci _, _, _, up_eq, stC_ci _, _, _, up_eq, stC_ci _, _, _, up_eq, stC_ci _, _, _, up_eq, stC_ci _, _, _, up_eq, stC_ci _, by decide +kernel, _, pk_div (by omega) (by decide) (by decide), _, _, (up_ne hqa).trans ((up_ne hqa).trans ((up_ne hqa).trans ((up_ne hqa).trans ((up_ne hqa).trans ((up_ne hqa).trans ((up_ne hqa).trans up_eq)))))), nn / 64, rfl, by omega, by decide, _, rfl, trivial, ?_⟩
  simp only [bx_uu]
  have hif : ∀ (x y : AC), va_up (va_up (va_up G qh (some x)) a (some y)) qh (some x) ia = some (inA A ls) := fun x y => (up_ne hiq).trans ((up_ne (Ne.symm hai)).trans ((up_ne hiq).trans hia))
  refine b_X6_init_84.go C ⟨by decide +kernel, _, pk_rem (by omega) (by decide) (by decide), _, rfl, _, rfl, _, _, (up_ne hqa).trans up_eq, nn / 64, rfl, by omega, by decide, ls.length, Or.inl ⟨5, _, by decide, (up_ne hiq).trans ((up_ne (Ne.symm hai)).trans ((up_ne hiq).trans hia))⟩, trivial, ?_⟩
  have hRa := hR.oth hna (some (stC w (stS σ (nI nn) form kind am) (stR ρ qh ia)))
  have hqa0 : va_up G a (some (stC w (stS σ (nI nn) form kind am) (stR ρ qh ia))) qh = none := (up_ne hqa).trans hqh
  refine (show ∀ (q j : Nat) (b : Nat → Int64) (G1 : GH) (o9 o10 : Option AV), j + q = ls.length → hgN L nn ls = hgAll L (ls.drop j) b → G1 = va_up (va_up G a (some (stC w (stS σ (nI nn) form kind am) (stR ρ qh ia)))) qh (some (.inl (1, 4, .inr (.inl b)))) → V p l e (RM (d + 1) 1 4) s m args below meth c Y (GA G s.heap.size) (QM below args s (RM (d + 1) 1 4) Y G (fun r G' => r = none ∧ ∃ qh, G qh = none ∧ G' = va_up (va_up G qh (some (.inl (1, 4, .inr (.inl (hgN L nn ls)))))) a (some (stC w (stS σ (nI nn) form kind am) (stR ρ qh ia))))) 102 G1 (0 + 1) (0 + 4) [some (.inr (.inr (some a))), some (.inl (nI nn)), some (.inl form), some (.inr (.inr (some ia))), some (.inl kind), some (.inl am), some (.inr (.inr (some ia))), some (.inl (nI ls.length)), some (.inl (nI j)), o9, o10] [] from ?_) ls.length 0 (hg0 nn) _ none none (by omega) rfl (by rw [up_comm haq, bx_uu]; exact (up_comm haq _ _).symm)
  intro q
  induction q with
  | zero =>
    intro j b G1 o9 o10 hj hs e1
    subst e1
    rw [List.drop_of_length_le (by omega), hgAll] at hs
    refine b_X6_init_102.go C ⟨fun _ => ⟨trivial, ?_⟩, fun h => absurd (nI_le (by omega) (by omega)) h⟩
    exact V_vret C X d_X6_init_159 (by show _ ≤ 1; omega) (by show _ ≤ 4; omega) ⟨rfl, qh, hqh, by rw [up_comm haq, hs]⟩
  | succ q ih =>
    intro j b G1 o9 o10 hj hs e1
    have hjl : j < ls.length := by omega
    obtain ⟨u, hu⟩ : ∃ u, ls[j] = u := ⟨_, rfl⟩
    have hum : u ∈ ls := hu ▸ List.getElem_mem hjl
    have hub := hls u hum
    have hel : elN ls j = nI u := by rw [elN, List.getElem?_eq_getElem hjl, hu]; rfl
    rw [List.drop_eq_getElem_cons hjl, hu, hgAll] at hs
    have hiaG : ∀ c, va_up (va_up G a (some (stC w (stS σ (nI nn) form kind am) (stR ρ qh ia)))) qh c ia = some (inA A ls) := fun c => (up_ne hiq).trans ((up_ne (Ne.symm hai)).trans hia)
    subst e1
    refine b_X6_init_102.go C ⟨fun h => absurd (show ls.length ≤ j from (nI_leI (by omega) (by omega)).mp h) (by omega), fun _ => ⟨trivial, ?_⟩⟩
    refine b_X6_init_109.go C ⟨_, _, hiaG _, j, rfl, hjl, by omega, _, dec_n hel hub.1 (by omega), trivial, ?_⟩
    refine (show ∀ (q2 i : Nat) (b2 : Nat → Int64) (G2 : GH), i + q2 = 4 → hgN L nn ls = hgAll L (ls.drop (j + 1)) (hgO L u q2 i b2) → G2 = va_up (va_up G a (some (stC w (stS σ (nI nn) form kind am) (stR ρ qh ia)))) qh (some (.inl (1, 4, .inr (.inl b2)))) → V p l e (RM (d + 1) 1 4) s m args below meth c Y (GA G s.heap.size) (QM below args s (RM (d + 1) 1 4) Y G (fun r G' => r = none ∧ ∃ qh, G qh = none ∧ G' = va_up (va_up G qh (some (.inl (1, 4, .inr (.inl (hgN L nn ls)))))) a (some (stC w (stS σ (nI nn) form kind am) (stR ρ qh ia))))) 119 G2 (0 + 1) (0 + 4) [some (.inr (.inr (some a))), some (.inl (nI nn)), some (.inl form), some (.inr (.inr (some ia))), some (.inl kind), some (.inl am), some (.inr (.inr (some ia))), some (.inl (nI ls.length)), some (.inl (nI j)), some (.inr (.inr (some (A 1 u)))), some (.inl (nI i))] [] from ?_) 4 0 b _ (by omega) hs rfl
    intro q2
    induction q2 with
    | zero =>
      intro i b2 G2 hi2 hs2 e2
      rw [hgO] at hs2
      subst e2
      refine b_X6_init_119.go C ⟨_, _, (up_ne haq).trans up_eq, stC_ci _, 4, Or.inl ⟨1, _, by decide, up_eq⟩, fun _ => ⟨trivial, ?_⟩, fun h => absurd (nI_le (by omega) (by omega)) h⟩
      refine b_X6_init_153.go C ⟨_, nI_1 _, trivial, ?_⟩
      exact ih (j + 1) b2 _ _ _ (by omega) hs2 rfl
    | succ q2 ih2 =>
      intro i b2 G2 hi2 hs2 e2
      rw [hgO] at hs2
      subst e2
      have R2 := hRa.fresh hqa0 (.inl (1, 4, .inr (.inl b2)))
      refine b_X6_init_119.go C ⟨_, _, (up_ne haq).trans up_eq, stC_ci _, 4, Or.inl ⟨1, _, by decide, up_eq⟩, fun h => absurd (show 4 ≤ i from (nI_leI (by omega) (by omega)).mp h) (by omega), fun _ => ⟨trivial, ?_⟩⟩
      refine b_X6_init_129.go C ⟨_, _, (up_ne haq).trans up_eq, stC_ci _, _, _, up_eq, i, rfl, by omega, by decide, _, rfl, _, _, R2.st hub, stC_ci _, _, _, R2.hg hub, i, rfl, by omega, by decide, _, rfl, _, rfl, _, _, up_eq, i, rfl, by omega, by decide, _, nI_1 _, trivial, ?_⟩
      exact ih2 (i + 1) _ _ (by omega) hs2 (by rw [bx_uu])
def wkS (σ : Nat → Int32) (mi : Int32) : Nat → Int32 := upd (upd (upd (upd (upd (upd (upd (upd (upd (upd σ 14 (nI 0)) 15 (nI 0)) 16 (nI 0)) 17 (nI 0)) 18 (nI 0)) 19 (nI 0)) 20 (nI 0)) 22 (nI 0)) 23 (nI 0)) 13 mi
def wkR (ρ : Nat → Option Nat) (qp qe : Nat) : Nat → Option Nat := va_up (va_up (va_up ρ 21 none) 24 (some qp)) 25 (some qe)
set_option maxHeartbeats 4000000 in
theorem k_WorkInit (d : Nat) (G : GH) (A : AS) (n F : Nat) (K : MS) (L : KL) (a ia nn : Nat) (σ : Nat → Int32) (ρ : Nat → Option Nat) (form mi kind am : Int32) (ls : List Nat) (hR : KR Y G A n F K L) (ha : G a = some (stC true σ ρ)) (hna : ∀ k i, liv n F K k i → A k i ≠ a) (hia : G ia = some (inA A ls)) (hls : ∀ u ∈ ls, 1 ≤ u ∧ u ≤ n) (hl24 : ls.length ≤ 24) (hnn : nn ≤ 201) : Cd l yX7_init cX7_init 7 none (d + 2) 3 4 Y [.inr (.inr (some a)), .inl (nI nn), .inl form, .inr (.inr (some ia)), .inl mi, .inl kind, .inl am] G (fun r G' => r = none ∧ ∃ qh qp qe, G qh = none ∧ G qp = none ∧ G qe = none ∧ qh ≠ qp ∧ qh ≠ qe ∧ qp ≠ qe ∧ G' = va_up (va_up (va_up (va_up G qh (some (.inl (1, 4, .inr (.inl (hgN L nn ls)))))) qp (some (.inl (0, 0, .inl (fun _ => 0))))) qe (some (oar 4 0 (fun _ => none)))) a (some (stC true (wkS (stS σ (nI nn) form kind am) mi) (wkR (stR ρ qh ia) qp qe)))) := by
  refine Ct.of (ini := True) (by decide +kernel) (fun _ => rfl) rfl (Nat.le_of_ble_eq_true rfl) ?_
  intro p e s m args below meth c C X
  refine b_X7_init_0.go C ⟨trivial, ?_⟩
  refine k_X7_init_8.go C X (k_StageInit d G A n F K L a ia nn true σ ρ form kind am ls hR ha hna hia hls hl24 hnn) (rest := []) rfl rfl rfl (fun _ => ⟨_, _, _, rfl, ha, by decide⟩) (lb rfl) (Rq.of (by omega) (by decide) (by show _ ≤ 3; omega) (by show _ ≤ 4; omega)) ?_
  rintro r G9 ⟨rfl, qh, hqh, rfl⟩
  have haq : a ≠ qh := ne_none ha hqh
  refine b_X7_init_11.go C ⟨_, up_eq, _, up_eq, _, up_eq, _, up_eq, z0, _, up_eq, z0, _, up_eq, _, up_eq, _, up_eq, trivial, ?_⟩
  simp only [bx_uu]
  refine b_X7_init_51.go C ⟨_, up_eq, _, up_eq, 0, rfl, by decide, by show _ ≤ 3; omega, by show _ ≤ 4; omega, fun qp hqp => ?_⟩
  simp only [bx_uu] at hqp ⊢
  have hap : a ≠ qp := ne_none up_eq hqp
  have hqp1 : va_up G qh (some (.inl (1, 4, .inr (.inl (hgN L nn ls))))) qp = none := (up_ne (Ne.symm hap)).symm.trans hqp
  have hhp : qh ≠ qp := ne_none up_eq hqp1
  have hqp2 : G qp = none := (up_ne (Ne.symm hhp)).symm.trans hqp1
  refine ⟨_, (up_ne hap).trans up_eq, 0, rfl, by decide, by show _ ≤ 3; omega, by show _ ≤ 4; omega, fun qe hqe => ?_⟩
  have hae : a ≠ qe := ne_none up_eq hqe
  have hqe1 := (up_ne (Ne.symm hae)).symm.trans hqe
  have hpe : qp ≠ qe := ne_none up_eq hqe1
  have hqe2 := (up_ne (Ne.symm hpe)).symm.trans hqe1
  have hqe3 := (up_ne (Ne.symm hae)).symm.trans hqe2
  have hhe : qh ≠ qe := ne_none up_eq hqe3
  have hqe4 : G qe = none := (up_ne (Ne.symm hhe)).symm.trans hqe3
  refine ⟨_, (up_ne hae).trans up_eq, _, up_eq, trivial, ?_⟩
  refine V_vret C X d_X7_init_82 (by show _ ≤ 3; omega) (by show _ ≤ 4; omega) ⟨rfl, qh, qp, qe, hqh, hqp2, hqe4, hhp, hhe, hpe, ?_⟩
  simp only [bx_uu]
  rw [up_comm hap, bx_uu, up_comm hae, bx_uu]
  rfl
/-- the pauses that are allowed -/
theorem k_allowPauses (d : Nat) (G : GH) (a tm : Nat) (pz : Int32) (σ : Nat → Int32) (ρ : Nat → Option Nat) (ha : G a = some (stC true σ ρ)) (htm : tm ≤ 5) : Cd l yX7_allowPauses cX7_allowPauses 3 none d 2 (tm + tm) Y [.inr (.inr (some a)), .inl (nI tm), .inl pz] G (fun r G' => r = none ∧ ∃ qp qe, G qp = none ∧ G qe = none ∧ qp ≠ qe ∧ G' = va_up (va_up (va_up G qp (some (.inl (0, tm, .inl (fun _ => 0))))) qe (some (oar 4 tm (fun _ => none)))) a (some (stC true (upd σ 23 pz) (va_up (va_up ρ 24 (some qp)) 25 (some qe))))) := by
  refine Ct.of (ini := False) (by decide +kernel) False.elim rfl (Nat.le_of_ble_eq_true rfl) ?_
  intro p e s m args below meth c C X
  refine b_X7_allowPauses_0.go C ⟨_, ha, tm, rfl, by omega, by show _ ≤ 2; omega, by show _ ≤ tm + tm; omega, fun qp hqp => ?_⟩
  have hap : a ≠ qp := ne_none up_eq hqp
  have hqp1 : G qp = none := (up_ne (Ne.symm hap)).symm.trans hqp
  refine ⟨_, (up_ne hap).trans up_eq, tm, rfl, by omega, by show _ ≤ 2; omega, by show _ ≤ tm + tm; omega, fun qe hqe => ?_⟩
  have hae : a ≠ qe := ne_none up_eq hqe
  have hqe1 := (up_ne (Ne.symm hae)).symm.trans hqe
  have hpe : qp ≠ qe := ne_none up_eq hqe1
  have hqe2 := (up_ne (Ne.symm hpe)).symm.trans hqe1
  have hqe3 : G qe = none := (up_ne (Ne.symm hae)).symm.trans hqe2
  refine ⟨_, (up_ne hae).trans up_eq, trivial, ?_⟩
  refine V_vret C X d_X7_allowPauses_20 (by show _ ≤ 2; omega) (by show _ ≤ tm + tm; omega) ⟨rfl, qp, qe, hqp1, hqe3, hpe, ?_⟩
  rw [up_comm hap, bx_uu, up_comm hae, bx_uu]
  rfl
theorem el1 (u j : Nat) : elN [u] j = if j = 0 then nI u else 0 := by
  rcases j with _ | j
  · rfl
  · exact nI_0
theorem el2 (u v j : Nat) : elN [u, v] j = if j = 0 then nI u else if j = 1 then nI v else 0 := by
  rcases j with _ | _ | j
  · rfl
  · rfl
  · exact nI_0
theorem k_inputsOf0 (d : Nat) (G : GH) (A : AS) : Cd l yX8_inputsOf cX8_inputsOf 0 (some (.array (.object "PromiseKitchen$Stage"))) d 1 0 Y [] G (fun r G' => ∃ q, G q = none ∧ r = some (.inr (.inr (some q))) ∧ G' = va_up G q (some (inA A []))) := by
  refine Ct.of (ini := False) (by decide +kernel) False.elim rfl (Nat.le_of_ble_eq_true rfl) ?_
  intro p e s m args below meth c C X
  refine b_X8_inputsOf_0.go C ⟨0, rfl, by decide, by show _ ≤ 1; omega, Nat.zero_le _, fun q hq => ⟨trivial, ?_⟩⟩
  exact V_aret C X (Or.inr ⟨_, rfl⟩) d_X8_inputsOf_4 (by show _ ≤ 1; omega) (Nat.zero_le _) ⟨q, hq, rfl, congrArg (fun f => va_up G q (some (oar 5 0 f))) (funext (fun j => (dec_0 (show elN [] j = 0 from nI_0)).symm))⟩
theorem k_inputsOf1 (d : Nat) (G : GH) (A : AS) (n F : Nat) (K : MS) (L : KL) (u : Nat) (hR : KR Y G A n F K L) (hu : 1 ≤ u ∧ u ≤ n) : Cd l yX8_inputsOf_ cX8_inputsOf_ 2 (some (.array (.object "PromiseKitchen$Stage"))) d 1 1 Y [.inr (.inr (some (A 1 u)))] G (fun r G' => ∃ q, G q = none ∧ r = some (.inr (.inr (some q))) ∧ G' = va_up G q (some (inA A [u]))) := by
  refine Ct.of (ini := False) (by decide +kernel) False.elim rfl (Nat.le_of_ble_eq_true rfl) ?_
  intro p e s m args below meth c C X
  have hn := hR.2.2.1
  refine b_X8_inputsOf__0.go C ⟨1, rfl, by decide, by show _ ≤ 1; omega, by show _ ≤ 1; omega, fun q hq => ?_⟩
  have R1 := hR.fresh hq (.inl (5, 1, .inr (.inr (.inr (.inr (fun _ => none))))))
  refine ⟨fun b9 h9 => by cases h9; exact ⟨_, _, R1.st hu, stC_in _⟩, _, _, up_eq, 0, rfl, by decide, by decide, trivial, ?_⟩
  refine V_aret C X (Or.inr ⟨_, rfl⟩) d_X8_inputsOf__10 (by show _ ≤ 1; omega) (by show _ ≤ 1; omega) ⟨q, hq, rfl, ?_⟩
  rw [bx_uu]
  refine congrArg (fun f => va_up G q (some (oar 5 1 f))) (funext (fun j => ?_))
  rw [el1]
  by_cases e : j = 0
  · subst e; rw [up_eq, if_pos rfl, dec_n rfl hu.1 (by omega)]
  · rw [up_ne e, if_neg e, dec_0 rfl]
def in2 (u v : Nat) : List Nat := if u = v then [u] else [u, v]
theorem k_inputsOf2 (d : Nat) (G : GH) (A : AS) (n F : Nat) (K : MS) (L : KL) (u v : Nat) (hR : KR Y G A n F K L) (hu : 1 ≤ u ∧ u ≤ n) (hv : 1 ≤ v ∧ v ≤ n) : Cd l yX8_inputsOf__ cX8_inputsOf__ 3 (some (.array (.object "PromiseKitchen$Stage"))) (d + 1) 1 2 Y [.inr (.inr (some (A 1 u))), .inr (.inr (some (A 1 v)))] G (fun r G' => ∃ q, G q = none ∧ r = some (.inr (.inr (some q))) ∧ G' = va_up G q (some (inA A (in2 u v)))) := by
  refine Ct.of (ini := False) (by decide +kernel) False.elim rfl (Nat.le_of_ble_eq_true rfl) ?_
  intro p e s m args below meth c C X
  have hn := hR.2.2.1
  refine b_X8_inputsOf___0.go C ⟨fun h0 => ⟨trivial, ?_⟩, fun h0 => ⟨trivial, ?_⟩⟩
  · have huv : u ≠ v := fun z => h0 (by rw [z])
    have e2 : in2 u v = [u, v] := if_neg huv
    rw [e2]
    refine b_X8_inputsOf___10.go C ⟨2, rfl, by decide, by show _ ≤ 1; omega, by show _ ≤ 2; omega, fun q hq => ?_⟩
    have R1 := hR.fresh hq (.inl (5, 2, .inr (.inr (.inr (.inr (fun _ => none))))))
    have R2 := hR.fresh hq (.inl (5, 2, .inr (.inr (.inr (.inr (va_up (fun _ => none) 0 (some (A 1 u))))))))
    refine ⟨fun b9 h9 => by cases h9; exact ⟨_, _, R1.st hu, stC_in _⟩, _, _, up_eq, 0, rfl, by decide, by decide, fun b9 h9 => by cases h9; exact ⟨_, _, by rw [bx_uu]; exact R2.st hv, stC_in _⟩, _, _, up_eq, 1, rfl, by decide, by decide, trivial, ?_⟩
    refine V_aret C X (Or.inr ⟨_, rfl⟩) d_X8_inputsOf___24 (by show _ ≤ 1; omega) (by show _ ≤ 2; omega) ⟨q, hq, rfl, ?_⟩
    rw [bx_uu, bx_uu]
    refine congrArg (fun f => va_up G q (some (oar 5 2 f))) (funext (fun j => ?_))
    rw [el2]
    by_cases e1 : j = 1
    · subst e1; rw [up_eq, if_neg (by decide), if_pos rfl, dec_n rfl hv.1 (by omega)]
    · rw [up_ne e1]
      by_cases e : j = 0
      · subst e; rw [up_eq, if_pos rfl, dec_n rfl hu.1 (by omega)]
      · rw [up_ne e, if_neg e, if_neg e1, dec_0 rfl]
  · have huv : u = v := (hR.2.1 1 u 1 v hu hv (Option.some.inj h0)).2
    have e2 : in2 u v = [u] := if_pos huv
    rw [e2]
    refine b_X8_inputsOf___5.go C ⟨trivial, ?_⟩
    refine k_X8_inputsOf___6.go C X (k_inputsOf1 d G A n F K L u hR hu) (rest := []) rfl rfl rfl (fun h => absurd rfl h) (lb rfl) (Rq.of (by omega) (by decide) (by show _ ≤ 1; omega) (by show _ ≤ 2; omega)) ?_
    rintro r G9 ⟨q, hq, rfl, rfl⟩
    exact V_aret C X (Or.inr ⟨_, rfl⟩) d_X8_inputsOf___9 (by show _ ≤ 1; omega) (by show _ ≤ 2; omega) ⟨q, hq, rfl, rfl⟩
/-- the stages fr .. fr + ct - 1 -/
def grp (fr ct : Nat) : List Nat := (List.range ct).map (fun j => fr + j)
theorem grp_l (fr ct : Nat) : (grp fr ct).length = ct := by simp [grp]
theorem grp_e (fr ct j : Nat) : elN (grp fr ct) j = if j < ct then nI (fr + j) else 0 := by
  unfold elN grp
  by_cases h : j < ct
  · rw [if_pos h, List.getElem?_map, List.getElem?_range h]; rfl
  · rw [if_neg h, List.getElem?_eq_none (by simp; omega)]; exact nI_0
set_option maxHeartbeats 2000000 in
theorem k_groupOf (d : Nat) (G : GH) (A : AS) (n F : Nat) (K : MS) (L : KL) (fr ct : Nat) (hR : KR Y G A n F K L) (hm : mdK K n n) (hf : 1 ≤ fr) (hct : ct ≤ 24) (hfc : fr + ct ≤ n + 1) : Cd l yX8_groupOf cX8_groupOf 5 (some (.array (.object "PromiseKitchen$Stage"))) d 1 ct Y [.inr (.inr (some (A 0 0))), .inl (nI fr), .inl (nI ct)] G (fun r G' => ∃ q, G q = none ∧ r = some (.inr (.inr (some q))) ∧ G' = va_up G q (some (inA A (grp fr ct)))) := by
  refine Ct.of (ini := False) (by decide +kernel) False.elim rfl (Nat.le_of_ble_eq_true rfl) ?_
  intro p e s m args below meth c C X
  have hn := hm.2.2.1
  refine b_X8_groupOf_0.go C ⟨ct, rfl, by omega, by show _ ≤ 1; omega, by show _ ≤ ct; omega, fun q0 hq0 => ⟨trivial, ?_⟩⟩
  refine (show ∀ (q j : Nat) (G1 : GH), j + q = ct → G1 = va_up G q0 (some (oar 5 ct (fun x => if x < j then some (A 1 (fr + x)) else none))) → V p l e (RM d 1 ct) s m args below meth c Y (GA G s.heap.size) (QM below args s (RM d 1 ct) Y G (fun r G' => ∃ q, G q = none ∧ r = some (.inr (.inr (some q))) ∧ G' = va_up G q (some (inA A (grp fr ct))))) 8 G1 (0 + 1) (0 + ct) [some (.inr (.inr (some (A 0 0)))), some (.inl (nI fr)), some (.inl (nI ct)), some (.inr (.inr (some q0))), some (.inl (nI j))] [] from ?_) ct 0 _ (by omega) (congrArg (fun f => va_up G q0 (some (oar 5 ct f))) (funext (fun x => (if_neg (Nat.not_lt_zero x)).symm)))
  intro q
  induction q with
  | zero =>
    intro j G1 hj e1
    subst e1
    refine b_X8_groupOf_8.go C ⟨fun _ => ⟨trivial, ?_⟩, fun h => absurd (nI_le (by omega) (by omega)) h⟩
    refine b_X8_groupOf_35.go C ⟨trivial, ?_⟩
    refine V_aret C X (Or.inr ⟨_, rfl⟩) d_X8_groupOf_36 (by show _ ≤ 1; omega) (by show _ ≤ ct; omega) ⟨q0, hq0, rfl, ?_⟩
    have ej : j = ct := by omega
    unfold inA
    rw [grp_l]
    refine congrArg (fun f => va_up G q0 (some (oar 5 ct f))) (funext (fun x => ?_))
    rw [grp_e, ej]
    by_cases h : x < ct
    · rw [if_pos h, if_pos h, dec_n rfl (by omega) (by omega)]
    · rw [if_neg h, if_neg h, dec_0 rfl]
  | succ q ih =>
    intro j G1 hj e1
    subst e1
    have R1 := hR.fresh hq0 (oar 5 ct (fun x => if x < j then some (A 1 (fr + x)) else none))
    have e5 : K 5 (fr - 1 + j) = nI (fr + j) := by rw [hm.2.2.2 (fr - 1 + j) (by omega)]; congr 1; omega
    refine b_X8_groupOf_8.go C ⟨fun h => absurd (show ct ≤ j from (nI_leI (by omega) (by omega)).mp h) (by omega), fun _ => ⟨trivial, ?_⟩⟩
    refine b_X8_groupOf_14.go C ⟨_, R1.mn, _, pk_sub (by omega), _, nI_add _ _, _, _, R1.md, fr - 1 + j, rfl, by omega, lb rfl, _, dec_n e5 (by omega) (by omega), fun b9 h9 => by cases h9; exact ⟨_, _, R1.st (i := fr + j) ⟨by omega, by omega⟩, stC_in _⟩, _, _, up_eq, j, rfl, by omega, by omega, _, nI_1 _, trivial, ?_⟩
    refine ih (j + 1) _ (by omega) ?_
    rw [bx_uu]
    refine congrArg (fun f => va_up G q0 (some (oar 5 ct f))) (funext (fun x => ?_))
    by_cases e : x = j
    · subst e; rw [up_eq, if_pos (by omega)]
    · rw [up_ne e]
      by_cases h : x < j
      · rw [if_pos h, if_pos (by omega)]
      · rw [if_neg h, if_neg (by omega)]
end CLX
