/-! the works -/
section MKWS
variable {n k F w x y d wn : Nat} {K K1 K2 K' : MS} {L L1 L' : KL} {M M1 M' : MS} {t h c b : Nat} {so kd v7 v18 v19 v20 v29 v30 v32 : Nat} {am : Int32} {ls : List Nat}
theorem begW_ok (n form mi kind pz : Nat) (am : Int32) (hn : n + 1 < 2 ^ 31) (hf : form < 2 ^ 31) (hm : mi < 2 ^ 31) (hk : kind < 2 ^ 31) (hp : pz < 2 ^ 31) : SgN (upd (begW n (nI form) (nI mi) (nI kind) am) 23 (nI pz)) := by
  have q := fun (v : Nat) (hv : v < 2 ^ 31) => nI_cl hv
  have h0 := beg_ok n form kind am hn hf hk
  unfold begW wkS
  have h1 := h0.up (i := 14) (Or.inr (Or.inr (Or.inr (q 0 (by decide)))))
  have h2 := h1.up (i := 15) (Or.inr (Or.inr (Or.inr (q 0 (by decide)))))
  have h3 := h2.up (i := 16) (Or.inr (Or.inr (Or.inr (q 0 (by decide)))))
  have h4 := h3.up (i := 17) (Or.inr (Or.inr (Or.inr (q 0 (by decide)))))
  have h5 := h4.up (i := 18) (Or.inr (Or.inr (Or.inr (q 0 (by decide)))))
  have h6 := h5.up (i := 19) (Or.inr (Or.inr (Or.inr (q 0 (by decide)))))
  have h7 := h6.up (i := 20) (Or.inr (Or.inr (Or.inr (q 0 (by decide)))))
  have h8 := h7.up (i := 22) (Or.inr (Or.inr (Or.inr (q 0 (by decide)))))
  have h9 := h8.up (i := 23) (Or.inr (Or.inr (Or.inr (q 0 (by decide)))))
  have h10 := h9.up (i := 13) (Or.inr (Or.inr (Or.inr (q mi hm))))
  exact h10.up (i := 23) (Or.inr (Or.inr (Or.inr (q pz hp))))
theorem nwk_wrk {form kind mi pz tm : Nat} {am : Int32} (hR : Rel n k F K L M) (hI : Inv n k w 0 0 M) (hn : n + 1 ≤ 200) (hls : ∀ u ∈ ls, 1 ≤ u ∧ u ≤ n) (hnd : ls.Nodup) (hlen : ls.length ≤ 24) (htm : tm ≤ 5) (hf : form < 2 ^ 31) (hk : kind < 2 ^ 31) (hm : mi < 2 ^ 31) (hp : pz < 2 ^ 31) : NwK n K (kepK (mkKw K (n + 1) (upd (begW n (nI form) (nI mi) (nI kind) am) 23 (nI pz)) ls tm) (n + 1)) 0 0 form kind mi pz tm am ls [] ∧ Fx K (kepK (mkKw K (n + 1) (upd (begW n (nI form) (nI mi) (nI kind) am) 23 (nI pz)) ls tm) (n + 1)) :=
  nwk_kep (σ := upd (begW n (nI form) (nI mi) (nI kind) am) 23 (nI pz)) hR hI hn hls hnd hlen htm (begW_ok n form mi kind pz am (by omega) hf hm hk hp) rfl rfl hf rfl hk rfl rfl rfl rfl rfl rfl rfl hm rfl rfl rfl rfl rfl rfl rfl hp
theorem begW_z (n : Nat) (form mi kind am : Int32) : upd (begW n form mi kind am) 23 (nI 0) = begW n form mi kind am := by
  funext j
  rw [updI]
  by_cases c : j = 23
  · subst c; rw [if_pos rfl]; rfl
  · rw [if_neg c]
theorem ow_rdy {form : Nat} {σ : Nat → Int32} {tm : Nat} (hn : n + 1 ≤ 200) (s1 : σ 1 = nI form) (hf : form ≤ 3) : owK (mkKw K (n + 1) σ ls tm) (n + 1) = rdyK (kepK (mkKw K (n + 1) σ ls tm) (n + 1)) (n + 1) := by
  unfold owK
  rw [if_neg]
  rintro ⟨z, -⟩
  unfold mkKw at z
  rw [stg_s (by omega) (by decide) (by decide), if_neg (by decide), if_neg (by decide), if_neg (by decide)] at z
  have z2 : nI form = nI 4 := s1.symm.trans z
  rw [nI_eq (by omega) (by decide)] at z2
  omega
/-- a work, ready as soon as it is made -/
theorem mk_rdy {form mi pz tm : Nat} {σ : Nat → Int32} {K3 : MS} (hS : Rst n k w F K L M) (hX : FX wn K F) (hn : n + 1 ≤ 200) (E : NwM n M M1 so kd v7 mi 1 w tm pz v32 am ls) (I1 : Inv (n + 1) k w 0 0 M1) (hso : 9 ≤ so) (hso2 : so ≤ 12) (C : NwK n K K3 0 0 (fm so) kd mi pz tm am ls []) (fx : Fx K K3) : Rst (n + 1) k w F (rdyK K3 (n + 1)) (upLt L (n + 1) (hgN L (n + 1) ls)) M1 ∧ FX wn (rdyK K3 (n + 1)) F := by
  have hR := hS.1
  have hI := hS.2.1
  have C2 := C.rdy hR hI hn
  have e2 : nN K 2 0 = w := by rw [hR.a.2.2.1]; exact hI.a.2.2.2.2.2.2
  have R1 := hR.new (L' := upLt L (n + 1) (hgN L (n + 1) ls)) hI I1 hn E C2 (by unfold stt; rw [if_pos rfl, if_neg (by omega)]) (by rw [if_neg (by omega), if_neg (by omega)]) (fun q => ⟨rfl, rfl, rfl, Nat.le_refl _, fun _ => e2⟩) (by rw [if_pos ⟨hso, rfl⟩]) (fun v hv => by rw [upLt_mk]; exact hv) (fun u v hu => upLt_B hu) (fun v hv => hgN_B hn hv) (fun a b => by omega)
  have X2 := (hX.ot fx).ot (Fx.rdy (t := n + 1))
  have P1 := Pre.of hS X2 R1 I1 E C2
  refine ⟨P1.rest (fun _ => ⟨fun hw _ => ?_, fun hw => ?_⟩), X2⟩
  · have := (isW_iff R1 I1 (show 1 ≤ n + 1 by omega) (Nat.le_refl _)).mpr (by rw [E.1.2.2.1, vu_s]; exact hso)
    rw [hw] at this; cases this
  · unfold frB
    refine decide_eq_false (fun z => ?_)
    have := (R1.nt.z rfl).mp z.2.1
    rw [C2.2.2.2.2.2.1.1] at this
    omega
def MkW (n k w wn F : Nat) (P : Prop) (C : Int32) (MM M : MS) (K' : MS) (L2 : KL) : Prop := (P → n < 200 → (Rst (n + 1) k w F K' L2 MM ∧ FX wn K' F) ∧ C = nI (n + 1)) ∧ (¬ P → C = -1 ∧ MM = M) ∧ (P → n = 200 → C = -2 ∧ MM = M)
theorem mkw_step {P : Prop} {B : Bool} {C : Int32} {MM R : MS} {L2 : KL} (hPB : P ↔ B = true) (hC : C = if B = true then (if fulB n 1 = true then -2 else nI (n + 1)) else -1) (hM : MM = if B = true then (if fulB n 1 = true then M else R) else M) (key : P → n < 200 → Rst (n + 1) k w F K' L2 R ∧ FX wn K' F) : MkW n k w wn F P C MM M K' L2 := by
  subst hC hM
  refine ⟨fun hP hn => ?_, fun hP => ?_, fun hP hn => ?_⟩
  · rw [if_pos (hPB.mp hP), if_neg (by rw [ful1 hn]; decide), if_pos (hPB.mp hP), if_neg (by rw [ful1 hn]; decide)]
    exact ⟨key hP hn, rfl⟩
  · rw [if_neg (fun z => hP (hPB.mpr z)), if_neg (fun z => hP (hPB.mpr z))]
    exact ⟨rfl, rfl⟩
  · rw [if_pos (hPB.mp hP), if_pos (ful2 hn), if_pos (hPB.mp hP), if_pos (ful2 hn)]
    exact ⟨rfl, rfl⟩
/-- the reference's new work -/
theorem newW_N {so le kd : Nat} {am : Int32} (hI : Inv n k w 0 0 M) (hn : n + 1 ≤ 200) (em : M 0 0 = nI w) (hw : w ≤ 10000) (hso : so < 2 ^ 31) (hle : le < 2 ^ 31) (hkd : kd < 2 ^ 31) : NwM n M (newWM M n (nI so) (nI le) (nI kd) am) so kd (nN M 7 (n + 1)) le 1 w (nN M 29 (n + 1)) (nN M 30 (n + 1)) (nN M 32 (n + 1)) am [] := by
  unfold newWM
  rw [em]
  exact (((mk_E (n := n) (so := so) (kd := kd) (am := am) hI.nt hn (hI.fr hn).1 hso hkd).nw.u18 hle).u19 (by decide)).u20 (by omega)
theorem tsk_step (hS : Rst n k w F K L M) (hX : FX wn K F) (v z a : Int32) : MkW n k w wn F (iwB v (nI 1) z = true) (tskC n M v z a) (tskM n M v z a) M (owK (mkKw K (n + 1) (begW n (nI 1) v z a) [] 0) (n + 1)) (upLt L (n + 1) (hgN L (n + 1) [])) := by
  obtain ⟨e0, e1, a1, e4, md, e2, em, hw⟩ := hS.n0
  have hR := hS.1
  have hI := hS.2.1
  have hPB : iwB v (nI 1) z = true ↔ tskB M v z a = true := Iff.rfl
  refine mkw_step (R := tskA n M v z a) hPB rfl rfl (fun hP hn => ?_)
  have hP' := of_decide_eq_true hP
  obtain ⟨mi, rfl, m1, m2⟩ := nI_btw (by decide) (by decide) hP'.1
  obtain ⟨kd, rfl, -, k2⟩ := nI_btw (by decide) (by decide) hP'.2
  obtain ⟨f1, f2, f3, f4⟩ := hI.fr (show n + 1 ≤ 200 by omega)
  have E := newW_N (so := 9) (le := mi) (kd := kd) (am := a) hI (by omega) em hw (by decide) (by omega) (by omega)
  rw [f3, f4] at E
  have hls : ∀ s ∈ ([] : List Nat), 1 ≤ s ∧ s ≤ n := fun s hs => by cases hs
  have I1 := E.inv hI (by omega) (by decide) (by decide) (by unfold shp; simp) hls (by simp) ⟨by omega, fun _ => by omega⟩ ⟨by omega, fun q => by omega, fun q => by omega⟩ (fun q => ⟨m1, m2⟩) ⟨by decide, fun _ => rfl⟩ (by decide) (fun q => ⟨by decide, fun z => by omega⟩)
  obtain ⟨C, fx⟩ := nwk_wrk (K := K) (ls := []) (form := 1) (kind := kd) (mi := mi) (pz := 0) (tm := 0) (am := a) hR hI (by omega) hls (by simp) (by decide) (by decide) (by decide) (by omega) (by omega) (by decide)
  rw [begW_z] at C fx
  rw [ow_rdy (form := 1) (σ := begW n (nI 1) (nI mi) (nI kd) a) (by omega) rfl (by decide)]
  exact mk_rdy (σ := fun _ => 0) (form := 0) hS hX (by omega) E I1 (by decide) (by decide) C fx
theorem rty_step (hS : Rst n k w F K L M) (hX : FX wn K F) (v z a u p : Int32) : MkW n k w wn F (rtyP v z u p) (rtyC n M v z a u p) (rtyM n M v z a u p) M (owK (mkKw K (n + 1) (upd (begW n (nI 2) v z a) 23 p) [] u.toNatClampNeg) (n + 1)) (upLt L (n + 1) (hgN L (n + 1) [])) := by
  obtain ⟨e0, e1, a1, e4, md, e2, em, hw⟩ := hS.n0
  have hR := hS.1
  have hI := hS.2.1
  have hPB : rtyP v z u p ↔ rtyB M v z a u p = true := by
    unfold rtyP iwB rtyB; rw [decide_eq_true_iff, decide_eq_true_iff]
    exact ⟨fun q => ⟨q.1.1, q.1.2, q.2.1, q.2.2⟩, fun q => ⟨⟨q.1, q.2.1⟩, q.2.2.1, q.2.2.2⟩⟩
  refine mkw_step (R := rtyA n M v z a u p) hPB rfl rfl (fun hP hn => ?_)
  have hP' := of_decide_eq_true hP.1
  obtain ⟨mi, rfl, m1, m2⟩ := nI_btw (by decide) (by decide) hP'.1
  obtain ⟨kd, rfl, -, k2⟩ := nI_btw (by decide) (by decide) hP'.2
  obtain ⟨tm, rfl, -, t2⟩ := nI_btw (by decide) (by decide) hP.2.1
  obtain ⟨pz, rfl, p1, p2⟩ := nI_btw (by decide) (by decide) hP.2.2
  obtain ⟨f1, f2, f3, f4⟩ := hI.fr (show n + 1 ≤ 200 by omega)
  have E := ((newW_N (so := 10) (le := mi) (kd := kd) (am := a) hI (by omega) em hw (by decide) (by omega) (by omega)).u29 (v := tm) (by omega)).u30 (v := pz) (by omega)
  have hls : ∀ s ∈ ([] : List Nat), 1 ≤ s ∧ s ≤ n := fun s hs => by cases hs
  have I1 := E.inv hI (by omega) (by decide) (by decide) (by unfold shp; simp) hls (by simp) ⟨by omega, fun _ => by omega⟩ ⟨by omega, fun q => by omega, fun q => by omega⟩ (fun q => ⟨m1, m2⟩) ⟨by omega, fun q => absurd rfl q⟩ (by omega) (fun q => ⟨by decide, fun z => by omega⟩)
  obtain ⟨C, fx⟩ := nwk_wrk (K := K) (ls := []) (form := 2) (kind := kd) (mi := mi) (pz := pz) (tm := tm) (am := a) hR hI (by omega) hls (by simp) (by decide) (by omega) (by decide) (by omega) (by omega) (by omega)
  rw [nI_clamp (show tm < 2 ^ 31 by omega), ow_rdy (form := 2) (σ := upd (begW n (nI 2) (nI mi) (nI kd) a) 23 (nI pz)) (by omega) rfl (by decide)]
  exact mk_rdy (σ := fun _ => 0) (form := 0) hS hX (by omega) E I1 (by decide) (by decide) C fx
theorem nst_step (hS : Rst n k w F K L M) (hX : FX wn K F) (v z a u : Int32) : MkW n k w wn F (nstP K v z u) (nstC n M v z a u) (nstM n M v z a u) M (owK (mkKw K (n + 1) (begW n (nI 3) v z a) [u.toNatClampNeg] 0) (n + 1)) (upLt L (n + 1) (hgN L (n + 1) [u.toNatClampNeg])) := by
  obtain ⟨e0, e1, a1, e4, md, e2, em, hw⟩ := hS.n0
  have hR := hS.1
  have hI := hS.2.1
  have hPB : nstP K v z u ↔ nstB M v z a u = true := by
    unfold nstP iwB nstB; rw [decide_eq_true_iff, decide_eq_true_iff, e0, e1]
    exact ⟨fun q => ⟨q.2.1, q.2.2, q.1⟩, fun q => ⟨q.2.2, q.1, q.2.1⟩⟩
  refine mkw_step (R := nstA n M v z a u) hPB rfl rfl (fun hP hn => ?_)
  have hP' := of_decide_eq_true hP.2
  have hP1 := hP.1
  rw [e0] at hP1
  obtain ⟨mi, rfl, m1, m2⟩ := nI_btw (by decide) (by decide) hP'.1
  obtain ⟨kd, rfl, -, k2⟩ := nI_btw (by decide) (by decide) hP'.2
  obtain ⟨p, rfl, p1, p2⟩ := nI_btw (by decide) (by omega) hP1
  obtain ⟨f1, f2, f3, f4⟩ := hI.fr (show n + 1 ≤ 200 by omega)
  have E := (newW_N (so := 11) (le := mi) (kd := kd) (am := a) hI (by omega) em hw (by decide) (by omega) (by omega)).tk (u := p) (by omega) (by decide)
  rw [f3, f4, show (if p ∈ ([] : List Nat) then [] else [] ++ [p]) = [p] by simp] at E
  have hls : ∀ s ∈ [p], 1 ≤ s ∧ s ≤ n := fun s hs => by have := List.mem_singleton.mp hs; omega
  have I1 := E.inv hI (by omega) (by decide) (show 1 ≤ 24 by decide) (by unfold shp; simp) hls (by simp) ⟨by omega, fun _ => by omega⟩ ⟨by omega, fun q => by omega, fun q => by omega⟩ (fun q => ⟨by omega, m2⟩) ⟨by decide, fun _ => rfl⟩ (by decide) (fun q => ⟨by decide, fun z => by omega⟩)
  obtain ⟨C, fx⟩ := nwk_wrk (K := K) (ls := [p]) (form := 3) (kind := kd) (mi := mi) (pz := 0) (tm := 0) (am := a) hR hI (by omega) hls (by simp) (show 1 ≤ 24 by decide) (by decide) (by decide) (by omega) (by omega) (by decide)
  rw [begW_z] at C fx
  rw [nI_clamp (show p < 2 ^ 31 by omega), ow_rdy (form := 3) (σ := begW n (nI 3) (nI mi) (nI kd) a) (by omega) rfl (by decide)]
  exact mk_rdy (σ := fun _ => 0) (form := 0) hS hX (by omega) E I1 (by decide) (by decide) C fx
/-- a clearing up, made -/
theorem maw_1 {v mi kd : Nat} (hS : Rst n k w F K L M) (hX : FX wn K F) (hn : n + 1 ≤ 200) (v1 : 1 ≤ v) (v2 : v ≤ n) (m1 : 1 ≤ mi) (m2 : mi ≤ 60) (k2 : kd ≤ 4) (a : Int32) : Rst (n + 1) k w F (owK (mkKw K (n + 1) (begW n (nI 4) (nI mi) (nI kd) a) [v] 0) (n + 1)) (upLt L (n + 1) (hgN L (n + 1) [v])) (mawQ n M (nI v) (nI mi) (nI kd) a) ∧ FX wn (owK (mkKw K (n + 1) (begW n (nI 4) (nI mi) (nI kd) a) [v] 0) (n + 1)) F := by
  obtain ⟨e0, e1, a1, e4, md, e2, em, hw⟩ := hS.n0
  have hR := hS.1
  have hI := hS.2.1
  obtain ⟨f1, f2, f3, f4⟩ := hI.fr hn
  have E0 := (newW_N (so := 12) (le := mi) (kd := kd) (am := a) hI hn em hw (by decide) (by omega) (by omega)).tk (u := v) (by omega) (by decide)
  rw [f3, f4, show (if v ∈ ([] : List Nat) then [] else [] ++ [v]) = [v] by simp] at E0
  have hls : ∀ s ∈ [v], 1 ≤ s ∧ s ≤ n := fun s hs => by have := List.mem_singleton.mp hs; omega
  obtain ⟨C, fx⟩ := nwk_wrk (K := K) (ls := [v]) (form := 4) (kind := kd) (mi := mi) (pz := 0) (tm := 0) (am := a) hR hI hn hls (by simp) (show 1 ≤ 24 by decide) (by decide) (by decide) (by omega) (by omega) (by decide)
  rw [begW_z] at C fx
  have m8 : takM (newWM M n (nI 12) (nI mi) (nI kd) a) (n + 1) (nI v) 8 v = 0 ↔ nN M 8 v = 0 := by rw [E0.2.2.2.2 8 rfl]; exact hI.nt.z rfl
  have k8 : nI 5 ≤ K 16 v ↔ nN M 8 v ≠ 0 := (hR.k16 hI v1 v2).1
  have k11 : mkKw K (n + 1) (begW n (nI 4) (nI mi) (nI kd) a) [v] 0 11 (n + 1) = nI 4 := by
    unfold mkKw; rw [stg_s (by omega) (by decide) (by decide), if_neg (by decide), if_neg (by decide), if_neg (by decide)]; rfl
  unfold owK mawQ
  rw [nI_clamp (show v < 2 ^ 31 by omega)]
  generalize hK3 : kepK (mkKw K (n + 1) (begW n (nI 4) (nI mi) (nI kd) a) [v] 0) (n + 1) = K3 at C fx ⊢
  have C0 := C
  obtain ⟨⟨C0', C1, C2, C3, C4⟩, ⟨C5, C6, C7⟩, C8, ⟨C9, C10⟩, ⟨D10, D11, D12, D1000, D13, D14⟩, ⟨D16, D17⟩, -⟩ := C
  have efin : finK K3 (n + 1) = v := by
    unfold finK
    rw [if_neg (by rw [D12]; exact (show ¬ 1 = 0 by decide))]
    exact D1000 0 (show 0 < 1 by decide)
  have e16v : K3 16 v = K 16 v := C5 16 v (by decide) (by decide) (by decide) (by omega)
  have fr : frB K3 (n + 1) = true ↔ nN M 8 v ≠ 0 := by
    unfold frB
    rw [decide_eq_true_iff, efin, e16v, k8, C0'.eq rfl (by decide), C0'.z rfl, D11, D16]
    exact ⟨fun z => z.2.2, fun z => ⟨rfl, rfl, z⟩⟩
  by_cases c8 : nN M 8 v = 0
  · rw [if_pos (m8.mpr c8), if_pos ⟨k11, by cases q : frB K3 (n + 1); rfl; exact absurd c8 (fr.mp q)⟩]
    have E := E0.u19 (v := 0) (by decide)
    have I1 := E.inv hI hn (by decide) (show 1 ≤ 24 by decide) (by unfold shp; simp) hls (by simp) ⟨by omega, fun _ => by omega⟩ ⟨by omega, fun q => by omega, fun q => by omega⟩ (fun q => ⟨m1, m2⟩) ⟨by decide, fun _ => rfl⟩ (by decide) (fun q => ⟨by decide, fun _ => rfl⟩)
    have R1 := hR.new (L' := upLt L (n + 1) (hgN L (n + 1) [v])) hI I1 hn E C0 (by unfold stt; rfl) (by rw [if_neg (by decide), if_neg (by decide)]) (fun q => ⟨rfl, rfl, rfl, by decide, fun z => by omega⟩) (by rw [if_neg (fun z => by omega)]) (fun v hv => by rw [upLt_mk]; exact hv) (fun u v hu => upLt_B hu) (fun v hv => hgN_B hn hv) (fun a b => by omega)
    have X2 := hX.ot fx
    have P1 := Pre.of hS X2 R1 I1 E C0
    refine ⟨P1.rest (fun _ => ⟨fun hw _ => ?_, fun hw => ?_⟩), X2⟩
    · have := (isW_iff R1 I1 (show 1 ≤ n + 1 by omega) (Nat.le_refl _)).mpr (by rw [E.1.2.2.1, vu_s]; decide)
      rw [hw] at this; cases this
    · cases q : frB K3 (n + 1)
      · rfl
      · exact absurd c8 (fr.mp q)
  · rw [if_neg (fun z => c8 (m8.mp z)), if_neg (fun z => by rw [fr.mpr c8] at z; cases z.2)]
    have E := E0.u19 (v := 1) (by decide)
    have I1 := E.inv hI hn (by decide) (show 1 ≤ 24 by decide) (by unfold shp; simp) hls (by simp) ⟨by omega, fun _ => by omega⟩ ⟨by omega, fun q => by omega, fun q => by omega⟩ (fun q => ⟨m1, m2⟩) ⟨by decide, fun _ => rfl⟩ (by decide) (fun q => ⟨by decide, fun z => by omega⟩)
    exact mk_rdy (σ := fun _ => 0) (form := 0) hS hX hn E I1 (by decide) (by decide) C0 fx
end MKWS
