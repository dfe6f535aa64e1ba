/-! typed puts, arrays, makings, casts -/
section VARR
variable {own : String} {cc : ByteArray} {ini : Prop} {pc : Nat}
/-- the general put, as SS_put has it -/
def w_put (ty : FieldType) (ci kf : Nat) : WT := fun _ _ K G n k lc st => match st with | v :: .inr (.inr (some a)) :: r => okv ty v ∧ ∃ fs, G a = some (.inr (ci, fs)) ∧ setF fs kf v (fun fs' => K (va_up G a (some (.inr (ci, fs')))) n k lc r) | _ => False
def w_putI (ci kf : Nat) : WT := fun _ _ K G n k lc st => match st with | .inl x :: .inr (.inr (some a)) :: r => ∃ fs, G a = some (.inr (ci, fs)) ∧ setF fs kf (.inl x) (fun fs' => K (va_up G a (some (.inr (ci, fs')))) n k lc r) | _ => False
theorem SS_putI {ci kf : Nat} (h0 : SS own cc ini pc (pc + 3) (w_put .int ci kf)) : SS own cc ini pc (pc + 3) (w_putI ci kf) := by
  intro p l e R s m args below meth c Y A Q K C hK G n k lc st h
  unfold w_putI at h
  split at h
  · obtain ⟨fs, hG, h⟩ := h
    exact h0 p l e R s m args below meth c Y A Q K C hK G n k lc _ ⟨⟨rfl, rfl⟩, fs, hG, h⟩
  · exact False.elim h
/-- of a Stage or a Work -/
def w_putSI (kf : Nat) : WT := fun _ _ K G n k lc st => match st with | .inl x :: .inr (.inr (some a)) :: r => ∃ ci fs, G a = some (.inr (ci, fs)) ∧ (ci = 6 ∨ ci = 7) ∧ setF fs kf (.inl x) (fun fs' => K (va_up G a (some (.inr (ci, fs')))) n k lc r) | _ => False
theorem SS_putSI {kf : Nat} (h6 : SS own cc ini pc (pc + 3) (w_putI 6 kf)) (h7 : SS own cc ini pc (pc + 3) (w_putI 7 kf)) : SS own cc ini pc (pc + 3) (w_putSI kf) := by
  intro p l e R s m args below meth c Y A Q K C hK G n k lc st h
  unfold w_putSI at h
  split at h
  · obtain ⟨ci, fs, hG, hci, h⟩ := h
    rcases hci with rfl | rfl
    · exact h6 p l e R s m args below meth c Y A Q K C hK G n k lc _ ⟨fs, hG, h⟩
    · exact h7 p l e R s m args below meth c Y A Q K C hK G n k lc _ ⟨fs, hG, h⟩
  · exact False.elim h
def w_putZ (ci kf : Nat) : WT := fun _ _ K G n k lc st => match st with | .inl x :: .inr (.inr (some a)) :: r => (x = 0 ∨ x = 1) ∧ ∃ fs, G a = some (.inr (ci, fs)) ∧ setF fs kf (.inl x) (fun fs' => K (va_up G a (some (.inr (ci, fs')))) n k lc r) | _ => False
theorem SS_putZ {ci kf : Nat} (h0 : SS own cc ini pc (pc + 3) (w_put .boolean ci kf)) : SS own cc ini pc (pc + 3) (w_putZ ci kf) := by
  intro p l e R s m args below meth c Y A Q K C hK G n k lc st h
  unfold w_putZ at h
  split at h
  · obtain ⟨hz, fs, hG, h⟩ := h
    exact h0 p l e R s m args below meth c Y A Q K C hK G n k lc _ ⟨nar_z hz, fs, hG, h⟩
  · exact False.elim h
/-- of a Stage or a Work -/
def w_putSZ (kf : Nat) : WT := fun _ _ K G n k lc st => match st with | .inl x :: .inr (.inr (some a)) :: r => (x = 0 ∨ x = 1) ∧ ∃ ci fs, G a = some (.inr (ci, fs)) ∧ (ci = 6 ∨ ci = 7) ∧ setF fs kf (.inl x) (fun fs' => K (va_up G a (some (.inr (ci, fs')))) n k lc r) | _ => False
theorem SS_putSZ {kf : Nat} (h6 : SS own cc ini pc (pc + 3) (w_putZ 6 kf)) (h7 : SS own cc ini pc (pc + 3) (w_putZ 7 kf)) : SS own cc ini pc (pc + 3) (w_putSZ kf) := by
  intro p l e R s m args below meth c Y A Q K C hK G n k lc st h
  unfold w_putSZ at h
  split at h
  · obtain ⟨hz, ci, fs, hG, hci, h⟩ := h
    rcases hci with rfl | rfl
    · exact h6 p l e R s m args below meth c Y A Q K C hK G n k lc _ ⟨hz, fs, hG, h⟩
    · exact h7 p l e R s m args below meth c Y A Q K C hK G n k lc _ ⟨hz, fs, hG, h⟩
  · exact False.elim h
def w_putA (ci kf : Nat) : WT := fun _ _ K G n k lc st => match st with | .inr (.inr o) :: .inr (.inr (some a)) :: r => ∃ fs, G a = some (.inr (ci, fs)) ∧ setF fs kf (.inr (.inr o)) (fun fs' => K (va_up G a (some (.inr (ci, fs')))) n k lc r) | _ => False
theorem SS_putA {ci kf : Nat} {ty : FieldType} (hty : (∃ C, ty = .object C) ∨ ∃ t, ty = .array t) (h0 : SS own cc ini pc (pc + 3) (w_put ty ci kf)) : SS own cc ini pc (pc + 3) (w_putA ci kf) := by
  intro p l e R s m args below meth c Y A Q K C hK G n k lc st h
  unfold w_putA at h
  split at h
  · obtain ⟨fs, hG, h⟩ := h
    exact h0 p l e R s m args below meth c Y A Q K C hK G n k lc _ ⟨nar_rf hty _, fs, hG, h⟩
  · exact False.elim h
/-- of a Stage or a Work -/
def w_putSA (kf : Nat) : WT := fun _ _ K G n k lc st => match st with | .inr (.inr o) :: .inr (.inr (some a)) :: r => ∃ ci fs, G a = some (.inr (ci, fs)) ∧ (ci = 6 ∨ ci = 7) ∧ setF fs kf (.inr (.inr o)) (fun fs' => K (va_up G a (some (.inr (ci, fs')))) n k lc r) | _ => False
theorem SS_putSA {kf : Nat} (h6 : SS own cc ini pc (pc + 3) (w_putA 6 kf)) (h7 : SS own cc ini pc (pc + 3) (w_putA 7 kf)) : SS own cc ini pc (pc + 3) (w_putSA kf) := by
  intro p l e R s m args below meth c Y A Q K C hK G n k lc st h
  unfold w_putSA at h
  split at h
  · obtain ⟨ci, fs, hG, hci, h⟩ := h
    rcases hci with rfl | rfl
    · exact h6 p l e R s m args below meth c Y A Q K C hK G n k lc _ ⟨fs, hG, h⟩
    · exact h7 p l e R s m args below meth c Y A Q K C hK G n k lc _ ⟨fs, hG, h⟩
  · exact False.elim h
def w_iald : WT := fun _ _ K G n k lc st => match st with | .inl i :: .inr (.inr (some a)) :: r => ∃ N f, G a = some (.inl (0, N, .inl f)) ∧ ∃ j : Nat, i = nI j ∧ j < N ∧ N ≤ 100000 ∧ ∃ z, f j = z ∧ K G n k lc (.inl z :: r) | _ => False
theorem SS_iald (hd : decode cc pc = .ok (.iaload, 1)) : SS own cc ini pc (pc + 1) w_iald := by
  intro p l e R s m args below meth c Y A Q K C hK G n k lc st h L H locs ls h1 h2 h3 h4 h5
  unfold w_iald at h
  split at h
  · obtain ⟨N, f, hG, j, rfl, hj, hN, z, hz, h⟩ := h
    obtain ⟨q0, hq0⟩ := GL_idx (Y := Y) h1 hG
    refine va_iald (D := Y.1) C.1 C.2.1 C.2.2.2.2.1.1 h2 q0 0 hq0 rfl (vp_in_nI hj (by omega)) hd ?_
    rw [nI_clamp (by omega), hz]
    exact hK _ _ _ _ _ h L H locs ls h1 h2 h3 h4 h5
  · exact False.elim h
def w_zald : WT := fun _ _ K G n k lc st => match st with | .inl i :: .inr (.inr (some a)) :: r => ∃ N f, G a = some (.inl (2, N, .inl f)) ∧ ∃ j : Nat, i = nI j ∧ j < N ∧ N ≤ 100000 ∧ ∃ z, f j = z ∧ K G n k lc (.inl z :: r) | _ => False
theorem SS_zald (hd : decode cc pc = .ok (.baload, 1)) : SS own cc ini pc (pc + 1) w_zald := by
  intro p l e R s m args below meth c Y A Q K C hK G n k lc st h L H locs ls h1 h2 h3 h4 h5
  unfold w_zald at h
  split at h
  · obtain ⟨N, f, hG, j, rfl, hj, hN, z, hz, h⟩ := h
    obtain ⟨q0, hq0⟩ := GL_idx (Y := Y) h1 hG
    refine va_zald (D := Y.1) C.1 C.2.1 C.2.2.2.2.1.1 h2 q0 2 hq0 rfl (vp_in_nI hj (by omega)) hd ?_
    rw [nI_clamp (by omega), hz]
    exact hK _ _ _ _ _ h L H locs ls h1 h2 h3 h4 h5
  · exact False.elim h
def w_lald : WT := fun _ _ K G n k lc st => match st with | .inl i :: .inr (.inr (some a)) :: r => ∃ N f, G a = some (.inl (1, N, .inr (.inl f))) ∧ ∃ j : Nat, i = nI j ∧ j < N ∧ N ≤ 100000 ∧ ∃ z, f j = z ∧ K G n k lc (.inr (.inl z) :: r) | _ => False
theorem SS_lald (hd : decode cc pc = .ok (.laload, 1)) : SS own cc ini pc (pc + 1) w_lald := by
  intro p l e R s m args below meth c Y A Q K C hK G n k lc st h L H locs ls h1 h2 h3 h4 h5
  unfold w_lald at h
  split at h
  · obtain ⟨N, f, hG, j, rfl, hj, hN, z, hz, h⟩ := h
    obtain ⟨q0, hq0⟩ := GL_idx (Y := Y) h1 hG
    refine va_lald (D := Y.1) C.1 C.2.1 C.2.2.2.2.1.1 h2 q0 1 hq0 rfl (vp_in_nI hj (by omega)) hd ?_
    rw [nI_clamp (by omega), hz]
    exact hK _ _ _ _ _ h L H locs ls h1 h2 h3 h4 h5
  · exact False.elim h
def w_iast : WT := fun _ _ K G n k lc st => match st with | .inl x :: .inl i :: .inr (.inr (some a)) :: r => ∃ N f, G a = some (.inl (0, N, .inl f)) ∧ ∃ j : Nat, i = nI j ∧ j < N ∧ N ≤ 100000 ∧ K (va_up G a (some (.inl (0, N, .inl (upd f j x))))) n k lc r | _ => False
theorem SS_iast (hd : decode cc pc = .ok (.iastore, 1)) : SS own cc ini pc (pc + 1) w_iast := by
  intro p l e R s m args below meth c Y A Q K C hK G n k lc st h L H locs ls h1 h2 h3 h4 h5
  unfold w_iast at h
  split at h
  · rename_i x i a r
    obtain ⟨N, f, hG, j, rfl, hj, hN, h⟩ := h
    obtain ⟨q0, hq0⟩ := GL_idx (Y := Y) h1 hG
    refine va_iast (D := Y.1) C.1 C.2.1 C.2.2.2.2.1.1 h2 h3 h4 q0 0 hq0 rfl (vp_in_nI hj (by omega)) hd (fun H1 locs1 g2 g3 g4 => ?_)
    rw [nI_clamp (by omega)] at g2 g3
    have hset := GL_set (e' := .inl (0, N, .inl (upd f j x))) h1 hG h3 hq0
    exact hK _ _ _ _ _ h L H1 locs1 ls (GL_up h1 hG) (hset ▸ g2) (hset ▸ g3) g4 h5
  · exact False.elim h
def w_zast : WT := fun _ _ K G n k lc st => match st with | .inl x :: .inl i :: .inr (.inr (some a)) :: r => (x = 0 ∨ x = 1) ∧ ∃ N f, G a = some (.inl (2, N, .inl f)) ∧ ∃ j : Nat, i = nI j ∧ j < N ∧ N ≤ 100000 ∧ K (va_up G a (some (.inl (2, N, .inl (upd f j x))))) n k lc r | _ => False
theorem nar_zx {x : Int32} (h : x = 0 ∨ x = 1) : vp_nar .boolean x = x := by rcases h with rfl | rfl <;> decide +kernel
theorem SS_zast (hd : decode cc pc = .ok (.bastore, 1)) : SS own cc ini pc (pc + 1) w_zast := by
  intro p l e R s m args below meth c Y A Q K C hK G n k lc st h L H locs ls h1 h2 h3 h4 h5
  unfold w_zast at h
  split at h
  · rename_i x i a r
    obtain ⟨hz, N, f, hG, j, rfl, hj, hN, h⟩ := h
    obtain ⟨q0, hq0⟩ := GL_idx (Y := Y) h1 hG
    refine va_zast (D := Y.1) C.1 C.2.1 C.2.2.2.2.1.1 h2 h3 h4 q0 2 hq0 rfl (vp_in_nI hj (by omega)) hd (fun H1 locs1 g2 g3 g4 => ?_)
    rw [nI_clamp (by omega)] at g2 g3
    have hnr : vp_nar .boolean _ = _ := nar_zx hz
    rw [hnr] at g2 g3
    have hset := GL_set (e' := .inl (2, N, .inl (upd f j x))) h1 hG h3 hq0
    exact hK _ _ _ _ _ h L H1 locs1 ls (GL_up h1 hG) (hset ▸ g2) (hset ▸ g3) g4 h5
  · exact False.elim h
def w_last : WT := fun _ _ K G n k lc st => match st with | .inr (.inl x) :: .inl i :: .inr (.inr (some a)) :: r => ∃ N f, G a = some (.inl (1, N, .inr (.inl f))) ∧ ∃ j : Nat, i = nI j ∧ j < N ∧ N ≤ 100000 ∧ K (va_up G a (some (.inl (1, N, .inr (.inl (vp_updL f j x)))))) n k lc r | _ => False
theorem SS_last (hd : decode cc pc = .ok (.lastore, 1)) : SS own cc ini pc (pc + 1) w_last := by
  intro p l e R s m args below meth c Y A Q K C hK G n k lc st h L H locs ls h1 h2 h3 h4 h5
  unfold w_last at h
  split at h
  · rename_i x i a r
    obtain ⟨N, f, hG, j, rfl, hj, hN, h⟩ := h
    obtain ⟨q0, hq0⟩ := GL_idx (Y := Y) h1 hG
    refine va_last (D := Y.1) C.1 C.2.1 C.2.2.2.2.1.1 h2 h3 h4 q0 1 hq0 rfl (vp_in_nI hj (by omega)) hd (fun H1 locs1 g2 g3 g4 => ?_)
    rw [nI_clamp (by omega)] at g2 g3
    have hset := GL_set (e' := .inl (1, N, .inr (.inl (vp_updL f j x)))) h1 hG h3 hq0
    exact hK _ _ _ _ _ h L H1 locs1 ls (GL_up h1 hG) (hset ▸ g2) (hset ▸ g3) g4 h5
  · exact False.elim h
/-- the class that an array of kind t (3 .. 6) holds -/
def akC (t : Nat) : String := match t with | 3 => "PromiseKitchen$Cook" | 4 => "PromiseKitchen$Failure" | 5 => "PromiseKitchen$Stage" | _ => "java/lang/Object"
theorem akC_ok (Y : YT) {t : Nat} (h : 3 ≤ t ∧ t ≤ 6) : (tysY Y)[t]? = some (Y.2.1 t, .object (akC t)) := by
  obtain ⟨h1, h2⟩ := h
  rcases (show t = 3 ∨ t = 4 ∨ t = 5 ∨ t = 6 by omega) with rfl | rfl | rfl | rfl <;> rfl
def w_aald (t : Nat) : WT := fun _ _ K G n k lc st => match st with | .inl i :: .inr (.inr (some a)) :: r => ∃ N f, G a = some (.inl (t, N, .inr (.inr (.inr (.inr f))))) ∧ ∃ j : Nat, i = nI j ∧ j < N ∧ N ≤ 100000 ∧ ∃ z, f j = z ∧ K G n k lc (.inr (.inr z) :: r) | _ => False
theorem SS_aald (t : Nat) (ht : 3 ≤ t ∧ t ≤ 6) (hd : decode cc pc = .ok (.aaload, 1)) : SS own cc ini pc (pc + 1) (w_aald t) := by
  intro p l e R s m args below meth c Y A Q K C hK G n k lc st h L H locs ls h1 h2 h3 h4 h5
  unfold w_aald at h
  split at h
  · obtain ⟨N, f, hG, j, rfl, hj, hN, z, hz, h⟩ := h
    obtain ⟨q0, hq0⟩ := GL_idx (Y := Y) h1 hG
    refine va_aldq (D := Y.1) C.1 C.2.1 C.2.2.2.2.1.1 h2 q0 t hq0 (akC_ok Y ht) (vp_in_nI hj (by omega)) hd ?_
    rw [nI_clamp (by omega), hz]
    exact hK _ _ _ _ _ h L H locs ls h1 h2 h3 h4 h5
  · exact False.elim h
/-- a store of null, or of an object whose class ci the tables say may lie in the array -/
def w_aast (t : Nat) (cis : List Nat) : WT := fun _ _ K G n k lc st => match st with | .inr (.inr o) :: .inl i :: .inr (.inr (some a)) :: r => (∀ b, o = some b → ∃ ci fs, G b = some (.inr (ci, fs)) ∧ ci ∈ cis) ∧ ∃ N f, G a = some (.inl (t, N, .inr (.inr (.inr (.inr f))))) ∧ ∃ j : Nat, i = nI j ∧ j < N ∧ N ≤ 100000 ∧ K (va_up G a (some (.inl (t, N, .inr (.inr (.inr (.inr (va_up f j o)))))))) n k lc r | _ => False
/-- ci's class is that of the array, or castable to it by the tables -/
def aaOk (t ci : Nat) : Prop := ∃ r, vwCl[ci]? = some r ∧ (r.1 = akC t ∨ (r.1, akC t) ∈ tnC)
theorem SS_aast (t : Nat) (cis : List Nat) (ht : 3 ≤ t ∧ t ≤ 6) (hci : ∀ ci ∈ cis, aaOk t ci) (hd : decode cc pc = .ok (.aastore, 1)) : SS own cc ini pc (pc + 1) (w_aast t cis) := by
  intro p l e R s m args below meth c Y A Q K C hK G n k lc st h L H locs ls h1 h2 h3 h4 h5
  unfold w_aast at h
  split at h
  · rename_i o i a r
    obtain ⟨ho, N, f, hG, j, rfl, hj, hN, h⟩ := h
    obtain ⟨q0, hq0⟩ := GL_idx (Y := Y) h1 hG
    have hset := GL_set (e' := .inl (t, N, .inr (.inr (.inr (.inr (va_up f j o)))))) h1 hG h3 hq0
    have hin : vp_in (nI j) N := vp_in_nI hj (by omega)
    cases o with
    | none =>
      refine va_astqN (D := Y.1) C.1 C.2.1 C.2.2.2.2.1.1 h2 h3 h4 q0 t hq0 (akC_ok Y ht) hin hd (fun H1 locs1 g2 g3 g4 => ?_)
      rw [nI_clamp (by omega)] at g2 g3
      exact hK _ _ _ _ _ h L H1 locs1 ls (GL_up h1 hG) (hset ▸ g2) (hset ▸ g3) g4 h5
    | some b =>
      obtain ⟨ci, fs, hGb, hm⟩ := ho b rfl
      obtain ⟨⟨rc, rT, rN⟩, hc, hcase⟩ := hci ci hm
      obtain ⟨qk, hqk⟩ := GL_idx (Y := Y) h1 hGb
      rcases hcase with hcase | hcase
      · dsimp only at hcase
        subst hcase
        refine va_astq (D := Y.1) (r := (akC t, rT, rN)) C.1 C.2.1 C.2.2.2.2.1.1 h2 h3 h4 q0 t qk ci hq0 (akC_ok Y ht) hqk hc hin hd (fun H1 locs1 g2 g3 g4 => ?_)
        rw [nI_clamp (by omega)] at g2 g3
        exact hK _ _ _ _ _ h L H1 locs1 ls (GL_up h1 hG) (hset ▸ g2) (hset ▸ g3) g4 h5
      · refine va_astqO (D := Y.1) (r := (rc, rT, rN)) (E := akC t) C.1 C.2.1 C.2.2.2.2.1.1 h2 h3 h4 q0 t qk ci hq0 (akC_ok Y ht) (C.2.2.2.2.1.2.2.2.2.2.1 _ hcase) hqk hc hin hd (fun H1 locs1 g2 g3 g4 => ?_)
        rw [nI_clamp (by omega)] at g2 g3
        exact hK _ _ _ _ _ h L H1 locs1 ls (GL_up h1 hG) (hset ▸ g2) (hset ▸ g3) g4 h5
  · exact False.elim h
def w_alen : WT := fun _ Y K G n k lc st => match st with | .inr (.inr (some a)) :: r => ∃ N, ((∃ t x, t < 7 ∧ G a = some (.inl (t, N, x))) ∨ (a = Y.2.2 0 ∧ N = 0)) ∧ K G n k lc (.inl (nI N) :: r) | _ => False
theorem SS_alen (hd : decode cc pc = .ok (.arraylength, 1)) : SS own cc ini pc (pc + 1) w_alen := by
  intro p l e R s m args below meth c Y A Q K C hK G n k lc st h L H locs ls h1 h2 h3 h4 h5
  unfold w_alen at h
  split at h
  · obtain ⟨N, hc, h⟩ := h
    rcases hc with ⟨t, x, ht, hG⟩ | ⟨rfl, rfl⟩
    · obtain ⟨q0, hq0⟩ := GL_idx (Y := Y) h1 hG
      obtain ⟨ty, hty⟩ : ∃ ty, (tysY Y)[t]? = some (Y.2.1 t, ty) := by
        rcases (show t = 0 ∨ t = 1 ∨ t = 2 ∨ t = 3 ∨ t = 4 ∨ t = 5 ∨ t = 6 by omega) with rfl | rfl | rfl | rfl | rfl | rfl | rfl <;> exact ⟨_, rfl⟩
      exact va_alen (D := Y.1) C.1 C.2.1 C.2.2.2.2.1.1 h2 q0 t hq0 hty rfl hd (hK _ _ _ _ _ h L H locs ls h1 h2 h3 h4 h5)
    · exact va_tlen C.1 C.2.1 C.2.2.2.2.1.2.2.2.1 h4 rfl hd (hK _ _ _ _ _ h L H locs ls h1 h2 h3 h4 h5)
  · exact False.elim h
/-- getstatic of ArrayList's empty array -/
def w_gets0 : WT := fun _ Y K G n k lc st => K G n k lc (.inr (.inr (some (Y.2.2 0))) :: st)
theorem SS_gets0 {i : Nat} (hd : decode cc pc = .ok (.getstatic i, 3)) (hl : Jvm.Cond.fieldLink own i "java/util/ArrayList" "DEFAULTCAPACITY_EMPTY_ELEMENTDATA" "[Ljava/lang/Object;" ∈ tg) : SS own cc ini pc (pc + 3) w_gets0 :=
  fun _ _ _ _ _ _ _ _ _ _ _ _ _ _ C hK _ _ _ _ _ h L H locs ls h1 h2 h3 h4 h5 => va_gets C.1 C.2.1 C.2.2.2.2.1.2.2.1 h4 C.2.2.1 (C.2.2.2.1 _ hl) (fun _ h => h) hd (hK _ _ _ _ _ h L H locs ls h1 h2 h3 h4 h5)
theorem pl_fresh {Y : YT} {A : Nat → Prop} {G : GH} {L : List Nat} {q : Nat} {e : va_E} (hD : va_D A (va_pl L (cf Y G) ++ [(q, e)])) : q ∉ L := va_pl_fresh2 (X := []) hD
/-- a new object: its class ci of N fields, all as they are born -/
def w_new (ci N : Nat) (fs : List AV) : WT := fun R _ K G n k lc st => n + 1 ≤ R.cells ∧ k + N ≤ R.slots ∧ ∀ q, G q = none → K (va_up G q (some (.inr (ci, fs)))) (n + 1) (k + N) lc (.inr (.inr (some q)) :: st)
theorem SS_new {ci N i : Nat} {fs : List AV} {C' : String} {T : u_T} (ty : Nat → FieldType) (hd : decode cc pc = .ok (.new i, 3)) (hc : vwCl[ci]? = some (C', T, N)) (hin : ∀ w ∈ u_ws C' T N, w ∈ tg) (hty : ∀ k, k < N → parseFieldDescriptor (T k).2.2.1 = some (ty k)) (hl : Jvm.Cond.classLink own i C' ∈ tg) (hi : Jvm.Cond.instantiable C' N ∈ tg) (hini : Jvm.Cond.initialized C' ∈ tg) (hfs : ∀ j, j < N → defaultValue (ty j) = vp_V (fs.map cvv) j) : SS own cc ini pc (pc + 3) (w_new ci N fs) := by
  intro p l e R s m args below meth c Y A Q K C hK G n k lc st h L H locs ls h1 h2 h3 h4 h5
  obtain ⟨hn, hk, h⟩ := h
  refine va_new (D := Y.1) C.1 C.2.1 C.2.2.2.1 hin ty hty C.2.2.1 (C.2.2.2.1 _ hl) (C.2.2.2.1 _ hi) (C.2.2.2.1 _ hini) C.2.2.2.2.1.1 h2 h3 h4 C.2.2.2.2.2.1 hc hfs hn hk hd (fun q H1 g2 g3 g4 => ?_)
  have hq : q ∉ L := pl_fresh g3
  have hp := GL_push (Y := Y) (G := G) (e := .inr (ci, fs)) hq
  exact hK _ _ _ _ _ (h q (GL_none h1 hq)) (L ++ [q]) H1 locs ls (GL_new h1) (hp ▸ g2) (hp ▸ g3) g4 h5
theorem arr_same {U : State} {a b : ClassId} {ty : FieldType} (h1 : va_RA U a ty) (h2 : va_RA U b ty) : a = b := by
  cases ty with
  | object C =>
    obtain ⟨_, _, _, _, _, g1⟩ := h1
    obtain ⟨_, _, _, _, _, g2⟩ := h2
    exact Option.some.inj (g1.symm.trans g2)
  | _ => exact Option.some.inj (Eq.trans (Eq.symm h1) h2)
def w_newaI : WT := fun R _ K G n k lc st => match st with | .inl x :: r => ∃ N : Nat, x = nI N ∧ N ≤ 100000 ∧ n + 1 ≤ R.cells ∧ k + N ≤ R.slots ∧ ∀ q, G q = none → K (va_up G q (some (.inl (0, N, .inl (fun _ => 0))))) (n + 1) (k + N) lc (.inr (.inr (some q)) :: r) | _ => False
theorem SS_newaI (hd : decode cc pc = .ok (.newarray .int, 2)) (hw : Jvm.Cond.arrayClass .int ∈ tg) : SS own cc ini pc (pc + 2) w_newaI := by
  intro p l e R s m args below meth c Y A Q K C hK G n k lc st h L H locs ls h1 h2 h3 h4 h5
  unfold w_newaI at h
  split at h
  · obtain ⟨N, rfl, hN, hn, hk, h⟩ := h
    refine va_newa (D := Y.1) (atype := .int) (ty := .int) (a0 := (N, .inl (fun _ => 0))) C.1 C.2.1 (C.2.2.2.1 _ hw) rfl C.2.2.2.2.1.1 h2 h3 h4 C.2.2.2.2.2.1 (fun _ => rfl) (nI_pos (by omega)) (nI_clamp (by omega)) (Nat.le_trans (Nat.mul_le_mul_left N (show componentBytes .int ≤ 8 by decide)) (by omega)) hn hk hd (fun q cA H1 gK g2 g3 g4 => ?_)
    have hcA : cA = Y.2.1 0 := arr_same (gK.2 7 (cA, .int) rfl).2 (C.2.2.2.2.1.1.2 0 (Y.2.1 0, .int) rfl).2
    subst hcA
    have hq : q ∉ L := pl_fresh g3
    have hp := GL_push (Y := Y) (G := G) (e := .inl (0, N, .inl (fun _ => 0))) hq
    exact hK _ _ _ _ _ (h q (GL_none h1 hq)) (L ++ [q]) H1 locs ls (GL_new h1) (hp ▸ g2) (hp ▸ g3) g4 h5
  · exact False.elim h
def w_newaJ : WT := fun R _ K G n k lc st => match st with | .inl x :: r => ∃ N : Nat, x = nI N ∧ N ≤ 100000 ∧ n + 1 ≤ R.cells ∧ k + N ≤ R.slots ∧ ∀ q, G q = none → K (va_up G q (some (.inl (1, N, .inr (.inl (fun _ => 0)))))) (n + 1) (k + N) lc (.inr (.inr (some q)) :: r) | _ => False
theorem SS_newaJ (hd : decode cc pc = .ok (.newarray .long, 2)) (hw : Jvm.Cond.arrayClass .long ∈ tg) : SS own cc ini pc (pc + 2) w_newaJ := by
  intro p l e R s m args below meth c Y A Q K C hK G n k lc st h L H locs ls h1 h2 h3 h4 h5
  unfold w_newaJ at h
  split at h
  · obtain ⟨N, rfl, hN, hn, hk, h⟩ := h
    refine va_newa (D := Y.1) (atype := .long) (ty := .long) (a0 := (N, .inr (.inl (fun _ => 0)))) C.1 C.2.1 (C.2.2.2.1 _ hw) rfl C.2.2.2.2.1.1 h2 h3 h4 C.2.2.2.2.2.1 (fun _ => rfl) (nI_pos (by omega)) (nI_clamp (by omega)) (Nat.le_trans (Nat.mul_le_mul_left N (show componentBytes .long ≤ 8 by decide)) (by omega)) hn hk hd (fun q cA H1 gK g2 g3 g4 => ?_)
    have hcA : cA = Y.2.1 1 := arr_same (gK.2 7 (cA, .long) rfl).2 (C.2.2.2.2.1.1.2 1 (Y.2.1 1, .long) rfl).2
    subst hcA
    have hq : q ∉ L := pl_fresh g3
    have hp := GL_push (Y := Y) (G := G) (e := .inl (1, N, .inr (.inl (fun _ => 0)))) hq
    exact hK _ _ _ _ _ (h q (GL_none h1 hq)) (L ++ [q]) H1 locs ls (GL_new h1) (hp ▸ g2) (hp ▸ g3) g4 h5
  · exact False.elim h
def w_newaZ : WT := fun R _ K G n k lc st => match st with | .inl x :: r => ∃ N : Nat, x = nI N ∧ N ≤ 100000 ∧ n + 1 ≤ R.cells ∧ k + N ≤ R.slots ∧ ∀ q, G q = none → K (va_up G q (some (.inl (2, N, .inl (fun _ => 0))))) (n + 1) (k + N) lc (.inr (.inr (some q)) :: r) | _ => False
theorem SS_newaZ (hd : decode cc pc = .ok (.newarray .boolean, 2)) (hw : Jvm.Cond.arrayClass .boolean ∈ tg) : SS own cc ini pc (pc + 2) w_newaZ := by
  intro p l e R s m args below meth c Y A Q K C hK G n k lc st h L H locs ls h1 h2 h3 h4 h5
  unfold w_newaZ at h
  split at h
  · obtain ⟨N, rfl, hN, hn, hk, h⟩ := h
    refine va_newa (D := Y.1) (atype := .boolean) (ty := .boolean) (a0 := (N, .inl (fun _ => 0))) C.1 C.2.1 (C.2.2.2.1 _ hw) rfl C.2.2.2.2.1.1 h2 h3 h4 C.2.2.2.2.2.1 (fun _ => rfl) (nI_pos (by omega)) (nI_clamp (by omega)) (Nat.le_trans (Nat.mul_le_mul_left N (show componentBytes .boolean ≤ 8 by decide)) (by omega)) hn hk hd (fun q cA H1 gK g2 g3 g4 => ?_)
    have hcA : cA = Y.2.1 2 := arr_same (gK.2 7 (cA, .boolean) rfl).2 (C.2.2.2.2.1.1.2 2 (Y.2.1 2, .boolean) rfl).2
    subst hcA
    have hq : q ∉ L := pl_fresh g3
    have hp := GL_push (Y := Y) (G := G) (e := .inl (2, N, .inl (fun _ => 0))) hq
    exact hK _ _ _ _ _ (h q (GL_none h1 hq)) (L ++ [q]) H1 locs ls (GL_new h1) (hp ▸ g2) (hp ▸ g3) g4 h5
  · exact False.elim h
def w_newq (t : Nat) : WT := fun R _ K G n k lc st => match st with | .inl x :: r => ∃ N : Nat, x = nI N ∧ N ≤ 100000 ∧ n + 1 ≤ R.cells ∧ k + N ≤ R.slots ∧ ∀ q, G q = none → K (va_up G q (some (.inl (t, N, .inr (.inr (.inr (.inr (fun _ => none)))))))) (n + 1) (k + N) lc (.inr (.inr (some q)) :: r) | _ => False
theorem SS_newq (t : Nat) {i : Nat} (ht : 3 ≤ t ∧ t ≤ 6) (hd : decode cc pc = .ok (.anewarray i, 3)) (hl : Jvm.Cond.classLink own i (akC t) ∈ tg) (hw : akC t ∈ tnO) : SS own cc ini pc (pc + 3) (w_newq t) := by
  intro p l e R s m args below meth c Y A Q K C hK G n k lc st h L H locs ls h1 h2 h3 h4 h5
  unfold w_newq at h
  split at h
  · obtain ⟨N, rfl, hN, hn, hk, h⟩ := h
    refine va_newq (D := Y.1) C.1 C.2.1 C.2.2.1 (C.2.2.2.1 _ hl) (C.2.2.2.2.1.2.2.2.2.2.2.2.1 _ hw) C.2.2.2.2.1.1 h2 h3 h4 C.2.2.2.2.2.1 (nI_pos (by omega)) (nI_clamp (by omega)) (by omega) hn hk hd (fun q cA H1 gK g2 g3 g4 => ?_)
    have hcA : cA = Y.2.1 t := arr_same (gK.2 7 (cA, .object (akC t)) rfl).2 (C.2.2.2.2.1.1.2 t (Y.2.1 t, .object (akC t)) (akC_ok Y ht)).2
    subst hcA
    have hq : q ∉ L := pl_fresh g3
    have hp := GL_push (Y := Y) (G := G) (e := .inl (t, N, .inr (.inr (.inr (.inr (fun _ => none)))))) hq
    exact hK _ _ _ _ _ (h q (GL_none h1 hq)) (L ++ [q]) H1 locs ls (GL_new h1) (hp ▸ g2) (hp ▸ g3) g4 h5
  · exact False.elim h
theorem G_recv {p : Program} {s : State} {m : MethodId} {args : Array Value} {c : Code} {meth : Method} {Y : YT} {A : Nat → Prop} {G : GH} {L : List Nat} {H : Heap} {a ci : Nat} {fs : List AV} {r : vw_C} (C : Cx p s m args c meth Y A own cc ini) (h1 : GL G L) (h2 : va_P Y.1 vwCl (va_pl L (cf Y G)) H) (hG : G a = some (.inr (ci, fs))) (hc : vwCl[ci]? = some r) : ∃ cell : Cell, H[a]? = some cell ∧ cell.vm.isStatics = false ∧ s.vm.findClass r.1 = some cell.cls := by
  obtain ⟨q0, hq0⟩ := GL_idx (Y := Y) h1 hG
  exact va_recv C.2.2.2.2.1.1 h2 hc hq0
/-- checkcast to Work or Stage: null passes; an object of a class that the tables say may be cast -/
def w_cast (cis : List Nat) : WT := fun _ _ K G n k lc st => match st with | .inr (.inr o) :: r => (∀ a, o = some a → ∃ ci fs, G a = some (.inr (ci, fs)) ∧ ci ∈ cis) ∧ K G n k lc (.inr (.inr o) :: r) | _ => False
theorem SS_cast (cis : List Nat) {i : Nat} {nm : String} (hd : decode cc pc = .ok (.checkcast i, 3)) (hl : Jvm.Cond.classLink own i nm ∈ tg) (hci : ∀ ci ∈ cis, ∃ r, vwCl[ci]? = some r ∧ (r.1, nm) ∈ tnC) : SS own cc ini pc (pc + 3) (w_cast cis) := by
  intro p l e R s m args below meth c Y A Q K C hK G n k lc st h L H locs ls h1 h2 h3 h4 h5
  unfold w_cast at h
  split at h
  · rename_i o r
    obtain ⟨ho, h⟩ := h
    cases o with
    | none => exact lv_castN C.1 C.2.1 hd (hK _ _ _ _ _ h L H locs ls h1 h2 h3 h4 h5)
    | some a =>
      obtain ⟨ci, fs, hG, hm⟩ := ho a rfl
      obtain ⟨r9, hc, hw⟩ := hci ci hm
      exact va_castY C.1 C.2.1 C.2.2.1 (C.2.2.2.1 _ hl) (C.2.2.2.2.1.2.2.2.2.2.1 _ hw) (G_recv C h1 h2 hG hc) hd (hK _ _ _ _ _ h L H locs ls h1 h2 h3 h4 h5)
  · exact False.elim h
/-- instanceof Work -/
def w_isWork : WT := fun _ _ K G n k lc st => match st with | .inr (.inr o) :: r => ∃ z, K G n k lc (.inl z :: r) ∧ ((o = none ∧ z = 0) ∨ ∃ a fs, o = some a ∧ ((G a = some (.inr (6, fs)) ∧ z = 0) ∨ (G a = some (.inr (7, fs)) ∧ z = 1))) | _ => False
theorem SS_isWork {i : Nat} (hd : decode cc pc = .ok (.instanceof i, 3)) (hl : Jvm.Cond.classLink own i "PromiseKitchen$Work" ∈ tg) (hw : ("PromiseKitchen$Work", "PromiseKitchen$Work") ∈ tnC) : SS own cc ini pc (pc + 3) w_isWork := by
  intro p l e R s m args below meth c Y A Q K C hK G n k lc st h L H locs ls h1 h2 h3 h4 h5
  unfold w_isWork at h
  split at h
  · obtain ⟨z, h, hz⟩ := h
    rcases hz with ⟨rfl, rfl⟩ | ⟨a, fs, rfl, ⟨hG, rfl⟩ | ⟨hG, rfl⟩⟩
    · exact lv_instN C.1 C.2.1 hd (hK _ _ _ _ _ h L H locs ls h1 h2 h3 h4 h5)
    · exact va_instNo C.1 C.2.1 C.2.2.1 (C.2.2.2.1 _ hl) C.2.2.2.2.1.2.1 (G_recv (r := (RX6, TX6, 13)) C h1 h2 hG rfl) hd (hK _ _ _ _ _ h L H locs ls h1 h2 h3 h4 h5)
    · exact va_instY C.1 C.2.1 C.2.2.1 (C.2.2.2.1 _ hl) (C.2.2.2.2.1.2.2.2.2.2.1 _ hw) (G_recv (r := (RX7, TX7, 26)) C h1 h2 hG rfl) hd (hK _ _ _ _ _ h L H locs ls h1 h2 h3 h4 h5)
  · exact False.elim h
end VARR
