/-! the loop over the works that are over -/
section RNES
variable {n k F w x y : Nat} {K K1 K' : MS} {L L' : KL} {M M1 M' : MS} {t h : Nat} {m3 m4 : Nat → Int32}
/-- whatever an end and an asking keep, following keeps -/
theorem fol_W {W : MS → Prop} (hA : ∀ M M' u, AskR M M' u → W M → W M') (h17 : ∀ M v, W M → W (up2 M 17 0 v)) (hI : Inv n k w 0 0 M) (hd : nN M 17 0 ≤ nN M 16 0) (hW : W M) {u : Nat} (hu : u ≤ n) : W (folM n M u) := by
  have hn := hI.a.1
  have J : FP n (M 3) (M 4) (fun dt M2 => IR n k w 0 (M 3) (M 4) dt M2 ∧ W M2) := by
    obtain ⟨⟨p1, p2, p3⟩, p4⟩ := IR_FP (n := n) (k := k) (w := w) (e0 := 0) (m3 := M 3) (m4 := M 4) hn
    refine ⟨⟨fun dt => ⟨hn, fun M2 h2 => (p1 dt).2.1 M2 h2.1, fun M2 v h2 hv hs ho => ?_, fun M2 v h2 h1 hv ho => ?_⟩, fun dt M2 h2 => p2 dt M2 h2.1, fun dt e M2 h2 h16 he hlt => ⟨p3 dt e M2 h2.1 h16 he hlt, h17 _ _ h2.2⟩⟩, fun dt M2 h2 => p4 dt M2 h2.1⟩
    · have r := (p1 dt).2.2.1 M2 v h2.1 hv hs ho
      have I2 := h2.1.1
      exact ⟨r.1, r.2, hA _ _ v (ask_R I2 (some_pos I2 hs).2 hv ((I2.nt.z rfl).mp ho) hs) h2.2⟩
    · have r := (p1 dt).2.2.2 M2 v h2.1 h1 hv ho
      exact ⟨r.1, r.2, hA _ _ v (ask_off h2.1.1 h1 hv ((h2.1.1.nt.z rfl).mp ho)) h2.2⟩
  have e := hI.e.le
  obtain ⟨dt, -, h3⟩ := fol_J J (M := M) ⟨nN M 17 0, by omega, ⟨hI, rfl, rfl, rfl, hd, Nat.zero_le _⟩, hW⟩ hu
  exact h3.2
def W55 (M M' : MS) : Prop := (M' 55 = M 55 ∧ M' 2 = M 2 ∧ M' 0 = M 0 ∧ M' 23 = M 23) ∧ (∀ u, nN M' 8 u = 0 → nN M 8 u = 0) ∧ ∀ u, nN M' 19 u = 2 → nN M 19 u = 2
theorem W55.end (hE : EndE M M' t h) (hh : 1 ≤ h) : W55 M M' := by
  have ef := hE.2.2.2.2.2.2
  refine ⟨⟨ef 55 rfl, ef 2 rfl, ef 0 rfl, ef 23 rfl⟩, fun u hu => ?_, fun u hu => by rw [nN_e (ef 19 rfl)] at hu; exact hu⟩
  rw [hE.1.1] at hu
  by_cases c : u = t
  · subst c; rw [vu_s] at hu; omega
  · rw [vu_n c] at hu; exact hu
theorem W55.tr (h1 : W55 M M1) (h2 : W55 M1 M') : W55 M M' := by
  obtain ⟨⟨a1, a2, a3, a4⟩, a5, a6⟩ := h1
  obtain ⟨⟨b1, b2, b3, b4⟩, b5, b6⟩ := h2
  exact ⟨⟨b1.trans a1, b2.trans a2, b3.trans a3, b4.trans a4⟩, fun u hu => a5 u (b5 u hu), fun u hu => a6 u (b6 u hu)⟩
theorem W55.same (o : ∀ f, f = 55 ∨ f = 2 ∨ f = 0 ∨ f = 23 ∨ f = 8 ∨ f = 19 → M' f = M f) : W55 M M' := ⟨⟨o 55 (by simp), o 2 (by simp), o 0 (by simp), o 23 (by simp)⟩, fun u hu => by rw [nN_e (o 8 (by simp))] at hu; exact hu, fun u hu => by rw [nN_e (o 19 (by simp))] at hu; exact hu⟩
theorem W55.ask (hA : AskR M M' t) : W55 M M' := by
  rcases hA with rfl | ⟨-, h0, rfl⟩ | ⟨h, hh, E, -⟩ | ⟨M1, kd, ca, l, E, -, -, -, -, E2, -⟩
  · exact W55.same (fun _ _ => rfl)
  · refine ⟨⟨rfl, rfl, rfl, rfl⟩, fun u hu => hu, fun u hu => ?_⟩
    rw [nN_f (by decide), nN_sn (by decide)] at hu
    by_cases c : u = t
    · subst c; rw [vu_s] at hu; omega
    · rw [vu_n c] at hu; exact hu
  · exact W55.end E hh.1
  · have ef := E.2.2.2.2.2.2.2.2.2.2
    exact (W55.same (fun f hf => ef f (by rcases hf with rfl | rfl | rfl | rfl | rfl | rfl <;> rfl))).tr (W55.end E2 (by decide))
def P55 (n t : Nat) (M : MS) : Prop := ∀ u, t ≤ u → u ≤ n → ovrB M u = true → ¬ M 55 u = 0
theorem P55.next (hN : NT exM M) (hN' : NT exM M') (hp : P55 n t M) (h0 : M' 0 = M 0) (h2 : M' 2 = M 2) (h55 : M' 55 = M 55) (h8 : ∀ u, u ≠ t → nN M' 8 u = 0 → nN M 8 u = 0) (h19 : ∀ u, u ≠ t → nN M' 19 u = 2 → nN M 19 u = 2) (h23 : ∀ u, u ≠ t → nN M' 23 u = nN M 23 u) : P55 n (t + 1) M' := fun u u1 u2 hu => by
  have hne : u ≠ t := by omega
  obtain ⟨c1, c2, c3, c4⟩ := (ovr_iff hN').mp hu
  rw [nN_e h2] at c1
  rw [h23 u hne, nN_e h0] at c4
  rw [h55]
  exact hp u (by omega) u2 ((ovr_iff hN).mpr ⟨c1, h8 u hne c2, h19 u hne c3, c4⟩)
theorem tw_iff (hR : Rel n k F K L M) (hI : Inv n k w x y M) (h1t : 1 ≤ t) (ht : t ≤ n) : (isWK K t = true ∧ K 16 t = nI 2 ∧ K 25 t = K 2 0) ↔ ovrB M t = true := by
  rw [ovr_iff hI.nt, isW_iff hR hI h1t ht, hR.nt.eq rfl (by decide), (hR.d t h1t ht).1, hR.nt.e2 rfl rfl, hR.a.2.2.1]
  constructor
  · rintro ⟨z1, z2, z3⟩
    unfold stt at z2
    by_cases ho : nN M 8 t = 0
    · rw [if_pos ho, if_neg (by omega)] at z2
      have q7 := ((hR.w t h1t ht z1).2.2.1 ho).2.1 z2
      exact ⟨z1, ho, z2, by omega⟩
    · rw [if_neg ho] at z2; omega
  · rintro ⟨z1, z2, z3, z4⟩
    have q7 := ((hR.w t h1t ht z1).2.2.1 z2).2.1 z3
    refine ⟨z1, ?_, by omega⟩
    unfold stt; rw [if_pos z2, if_neg (by omega)]; exact z3
theorem tw_sim : ∀ (q t : Nat) (K : MS) (F : Nat) (L : KL) (M : MS), Rst n k w F K L M → P55 n t M → 1 ≤ t → t + q ≤ n + 1 → Rst n k w (lpF (twS n) q t (K, F, L)).2.1 (lpF (twS n) q t (K, F, L)).1 (lpF (twS n) q t (K, F, L)).2.2 (ovF n q t M)
  | 0, _, _, _, _, _, h, _, _, _ => h
  | q + 1, t, K, F, L, M, hS, hP, h1t, hq => by
    have ht : t ≤ n := by omega
    have hR := hS.1
    have hI := hS.2.1
    have c := tw_iff hR hI h1t ht
    rw [lpF, ovF]
    by_cases hc : ovrB M t = true
    · have h55 := hP t (Nat.le_refl _) ht hc
      rw [if_pos ⟨h55, hc⟩]
      have ho := ((ovr_iff hI.nt).mp hc).2.1
      rcases tw_cases hR hI hS.2.2.1 h1t ht hc with ⟨fr, R2, I2, l2, o2⟩ | ⟨r, M', hr, e1, e2, e3, e4⟩
      · have hn5 : ¬ nI 5 ≤ twK K F t 16 t := fun z => ((R2.k16 I2 h1t ht).1.mp z) o2
        have ec : twS n (K, F, L) t = (twK K F t, twN K F t, twL K L t) := by unfold twS; rw [if_pos (c.mpr hc), if_neg hn5]
        rw [ec]
        have S2 := hS.wk fr R2 I2 l2
        exact tw_sim q (t + 1) _ _ _ _ S2 (hP.next hI.nt I2.nt (fr.2.1 0 (by simp)) (fr.1 2 rfl) (fr.2.1 55 (by simp)) (fun u _ z => by rw [nN_e (fr.2.1 8 (by simp))] at z; exact z) (fun u hu z => by rw [(fr.2.2.1 u hu).1] at z; exact z) (fun u hu => (fr.2.2.1 u hu).2)) (by omega) (by omega)
      · obtain ⟨S2, h5⟩ := hS.end h1t ht ho hr
        rw [← e1] at h5
        have ec : twS n (K, F, L) t = conT n (resK K t F r, resF F r, L) t := by
          unfold twS
          rw [if_pos (c.mpr hc), if_pos h5]
          show conT n (twK K F t, twN K F t, twL K L t) t = _
          rw [e1, e2, e3]
        rw [ec, e4]
        have a1 := hI.a.1
        have z2 := (res_sim hR hI (by decide) h1t ht ho hr (Or.inl (by rw [hS.2.2.2.1]; simp)) (by rw [hS.2.2.2.1]; simp)).2.2.1
        have I2 := AskR.inv (Or.inr (Or.inr z2)) hI h1t ht ho
        have W1 : W55 M M' := W55.ask (t := t) (Or.inr (Or.inr z2))
        have W2 : W55 M (folM n M' t) := fol_W (W := W55 M) (fun A B u a b => b.tr (W55.ask a)) (fun A v a => a.tr (W55.same (fun f hf => up2_f (by omega)))) I2 (by rw [nN_e z2.fr.2.2.1, z2.e16, hS.2.2.2.2.1]; omega) W1 ht
        exact tw_sim q (t + 1) _ _ _ _ S2 (hP.next hI.nt S2.2.1.nt W2.1.2.2.1 W2.1.2.1 W2.1.1 (fun u _ => W2.2.1 u) (fun u _ => W2.2.2 u) (fun u _ => by rw [nN_e W2.1.2.2.2])) (by omega) (by omega)
    · rw [if_neg (fun z => hc z.2)]
      have ec : twS n (K, F, L) t = (K, F, L) := by unfold twS; rw [if_neg (fun z => hc (c.mp z))]
      rw [ec]
      exact tw_sim q (t + 1) K F L M hS (fun u u1 u2 => hP u (by omega) u2) (by omega) (by omega)
/-- fields that nothing but the reference's own work reads -/
theorem Rst.cg (hS : Rst n k w F K L M) (hN : NT exM M') (o : ∀ f, f < 54 ∨ 65 < f → M' f = M f) : Rst n k w F K L M' := by
  obtain ⟨hR, hI, hd, h13, h17, hQ⟩ := hS
  refine ⟨hR.mcg hI.a.1 (fun f hf _ _ => o f (Or.inl hf)), hI.cg hN (fun f hf => o f ?_), fun u a b c => ?_, h13, by rw [nN_e (o 17 (by decide)), nN_e (o 16 (by decide))]; exact h17, hQ⟩
  · by_cases c : f < 54 ∨ 65 < f
    · exact c
    · have : f = 54 ∨ f = 55 ∨ f = 56 ∨ f = 57 ∨ f = 58 ∨ f = 59 ∨ f = 60 ∨ f = 61 ∨ f = 62 ∨ f = 63 ∨ f = 64 ∨ f = 65 := by omega
      rcases this with rfl | rfl | rfl | rfl | rfl | rfl | rfl | rfl | rfl | rfl | rfl | rfl <;> cases hf
  · rw [nN_e (o 8 (by decide))] at c
    rw [nN_e (o 13 (by decide)), nN_e (o 26 (by decide))]; exact hd u a b c
theorem ovr_e (h0 : M' 0 = M 0) (h2 : M' 2 = M 2) (h8 : M' 8 = M 8) (h19 : M' 19 = M 19) (h23 : M' 23 = M 23) (u : Nat) : ovrB M' u = ovrB M u := by unfold ovrB; rw [h0, h2, h8, h19, h23]
theorem ovA_o {f : Nat} (hf : f ≠ 55) : ∀ (q t : Nat) (M : MS), ovA q t M f = M f
  | 0, _, _ => rfl
  | q + 1, t, M => by rw [ovA, ovA_o hf q (t + 1), up2_f hf]
theorem ovA_nt : ∀ (q t : Nat) (M : MS), NT exM M → NT exM (ovA q t M)
  | 0, _, _, h => h
  | q + 1, t, M, h => ovA_nt q (t + 1) _ (h.upb _)
theorem ovA_55 : ∀ (q t : Nat) (M : MS) (u : Nat), ovA q t M 55 u = if t ≤ u ∧ u < t + q then bI (ovrB M u) else M 55 u
  | 0, t, M, u => by rw [if_neg (by omega)]; rfl
  | q + 1, t, M, u => by
    rw [ovA, ovA_55 q (t + 1), ovr_e (up2_f (by decide)) (up2_f (by decide)) (up2_f (by decide)) (up2_f (by decide)) (up2_f (by decide))]
    by_cases c : u = t
    · subst c
      rw [if_neg (by omega), if_pos (by omega), up2_s]
    · rw [up2_n (by omega)]
      by_cases c2 : t + 1 ≤ u ∧ u < t + 1 + q
      · rw [if_pos c2, if_pos (by omega)]
      · rw [if_neg c2, if_neg (by omega)]
theorem ovm_sim (hS : Rst n k w F K L M) : Rst n k w (lpF (twS n) n 1 (K, F, L)).2.1 (lpF (twS n) n 1 (K, F, L)).1 (lpF (twS n) n 1 (K, F, L)).2.2 (ovM n M) := by
  unfold ovM
  refine tw_sim n 1 K F L _ (hS.cg (ovA_nt _ _ _ hS.2.1.nt) (fun f hf => ovA_o (by omega) _ _ _)) (fun u u1 u2 hu => ?_) (Nat.le_refl _) (by omega)
  rw [ovr_e (ovA_o (by decide) _ _ _) (ovA_o (by decide) _ _ _) (ovA_o (by decide) _ _ _) (ovA_o (by decide) _ _ _) (ovA_o (by decide) _ _ _)] at hu
  rw [ovA_55, if_pos (by omega), hu]
  decide
end RNES
