/-! THE INSTRUCTIONS over the pure heap: w_.. the transformer, SS_.. that it is sound; t_.., SJ_.. the jumps. -/
section VROWS
variable {own : String} {cc : ByteArray} {ini : Prop} {pc : Nat}
def w_int (v : Int32) : WT := fun _ _ K G n k lc st => K G n k lc (.inl v :: st)
theorem SS_iconst {i : Int} {v : Int32} (hd : decode cc pc = .ok (.iconst i, 1)) (hv : Int32.ofInt i = v) : SS own cc ini pc (pc + 1) (w_int v) :=
  fun _ _ _ _ _ _ _ _ _ _ _ _ _ _ C hK _ _ _ _ _ h L H locs ls h1 h2 h3 h4 h5 => lv_iconst C.1 C.2.1 hd hv (hK _ _ _ _ _ h L H locs ls h1 h2 h3 h4 h5)
theorem SS_bipush {i : Int} {v : Int32} (hd : decode cc pc = .ok (.bipush i, 2)) (hv : (Int8.ofInt i).toInt32 = v) : SS own cc ini pc (pc + 2) (w_int v) :=
  fun _ _ _ _ _ _ _ _ _ _ _ _ _ _ C hK _ _ _ _ _ h L H locs ls h1 h2 h3 h4 h5 => lv_bipush C.1 C.2.1 hd hv (hK _ _ _ _ _ h L H locs ls h1 h2 h3 h4 h5)
theorem SS_sipush {i : Int} {v : Int32} (hd : decode cc pc = .ok (.sipush i, 3)) (hv : (Int16.ofInt i).toInt32 = v) : SS own cc ini pc (pc + 3) (w_int v) :=
  fun _ _ _ _ _ _ _ _ _ _ _ _ _ _ C hK _ _ _ _ _ h L H locs ls h1 h2 h3 h4 h5 => lv_sipush C.1 C.2.1 hd hv (hK _ _ _ _ _ h L H locs ls h1 h2 h3 h4 h5)
theorem SS_ldc {i : Nat} {v : Int32} (hd : decode cc pc = .ok (.ldc i, 2)) (hw : Jvm.Cond.constant own i v ∈ tg) : SS own cc ini pc (pc + 2) (w_int v) :=
  fun _ _ _ _ _ _ _ _ _ _ _ _ _ _ C hK _ _ _ _ _ h L H locs ls h1 h2 h3 h4 h5 => lv_ldc C.1 C.2.1 C.2.2.1 (C.2.2.2.1 _ hw) hd (hK _ _ _ _ _ h L H locs ls h1 h2 h3 h4 h5)
def w_long (v : Int64) : WT := fun _ _ K G n k lc st => K G n k lc (.inr (.inl v) :: st)
theorem SS_lconst {i : Fin 2} {v : Int64} (hd : decode cc pc = .ok (.lconst i, 1)) (hv : Int64.ofNat (i : Nat) = v) : SS own cc ini pc (pc + 1) (w_long v) :=
  fun _ _ _ _ _ _ _ _ _ _ _ _ _ _ C hK _ _ _ _ _ h L H locs ls h1 h2 h3 h4 h5 => lv_lconst C.1 C.2.1 hd hv (hK _ _ _ _ _ h L H locs ls h1 h2 h3 h4 h5)
def w_null : WT := fun _ _ K G n k lc st => K G n k lc (.inr (.inr none) :: st)
theorem SS_null (hd : decode cc pc = .ok (.aconst_null, 1)) : SS own cc ini pc (pc + 1) w_null :=
  fun _ _ _ _ _ _ _ _ _ _ _ _ _ _ C hK _ _ _ _ _ h L H locs ls h1 h2 h3 h4 h5 => lv_null C.1 C.2.1 hd (hK _ _ _ _ _ h L H locs ls h1 h2 h3 h4 h5)
def w_iload (i : Nat) : WT := fun _ _ K G n k lc st => getL lc i (fun v => match v with | .inl x => K G n k lc (.inl x :: st) | _ => False)
theorem SS_iload_n {j : Fin 4} (i : Nat) (hd : decode cc pc = .ok (.iload_n j, 1)) (hi : (j : Nat) = i) : SS own cc ini pc (pc + 1) (w_iload i) := by
  intro p l e R s m args below meth c Y A Q K C hK G n k lc st h L H locs ls h1 h2 h3 h4 h5
  obtain ⟨v, hv, h⟩ := getL_spec h
  match v, hv, h with
  | .inl x, hv, h => exact lv_iload_n C.1 C.2.1 hd hi (h5.2.2 _ _ hv).1 (hK _ _ _ _ _ h L H locs ls h1 h2 h3 h4 h5)
  | .inr _, hv, h => exact False.elim h
theorem SS_iload (i : Nat) (hd : decode cc pc = .ok (.iload i, 2)) : SS own cc ini pc (pc + 2) (w_iload i) := by
  intro p l e R s m args below meth c Y A Q K C hK G n k lc st h L H locs ls h1 h2 h3 h4 h5
  obtain ⟨v, hv, h⟩ := getL_spec h
  match v, hv, h with
  | .inl x, hv, h => exact lv_iload C.1 C.2.1 hd (h5.2.2 _ _ hv).1 (hK _ _ _ _ _ h L H locs ls h1 h2 h3 h4 h5)
  | .inr _, hv, h => exact False.elim h
def w_aload (i : Nat) : WT := fun _ _ K G n k lc st => getL lc i (fun v => match v with | .inr (.inr o) => K G n k lc (.inr (.inr o) :: st) | _ => False)
theorem SS_aload_n {j : Fin 4} (i : Nat) (hd : decode cc pc = .ok (.aload_n j, 1)) (hi : (j : Nat) = i) : SS own cc ini pc (pc + 1) (w_aload i) := by
  intro p l e R s m args below meth c Y A Q K C hK G n k lc st h L H locs ls h1 h2 h3 h4 h5
  obtain ⟨v, hv, h⟩ := getL_spec h
  match v, hv, h with
  | .inl _, hv, h => exact False.elim h
  | .inr (.inl _), hv, h => exact False.elim h
  | .inr (.inr none), hv, h => exact lv_aload_nN C.1 C.2.1 hd hi (h5.2.2 _ _ hv).1 (hK _ _ _ _ _ h L H locs ls h1 h2 h3 h4 h5)
  | .inr (.inr (some a)), hv, h => exact lv_aload_n C.1 C.2.1 hd hi (h5.2.2 _ _ hv).1 (hK _ _ _ _ _ h L H locs ls h1 h2 h3 h4 h5)
theorem SS_aload (i : Nat) (hd : decode cc pc = .ok (.aload i, 2)) : SS own cc ini pc (pc + 2) (w_aload i) := by
  intro p l e R s m args below meth c Y A Q K C hK G n k lc st h L H locs ls h1 h2 h3 h4 h5
  obtain ⟨v, hv, h⟩ := getL_spec h
  match v, hv, h with
  | .inl _, hv, h => exact False.elim h
  | .inr (.inl _), hv, h => exact False.elim h
  | .inr (.inr none), hv, h => exact lv_aloadN C.1 C.2.1 hd (h5.2.2 _ _ hv).1 (hK _ _ _ _ _ h L H locs ls h1 h2 h3 h4 h5)
  | .inr (.inr (some a)), hv, h => exact lv_aload C.1 C.2.1 hd (h5.2.2 _ _ hv).1 (hK _ _ _ _ _ h L H locs ls h1 h2 h3 h4 h5)
def w_istore (i : Nat) : WT := fun _ _ K G n k lc st => match st with | .inl x :: r => setL lc i (.inl x) (fun lc' => K G n k lc' r) | _ => False
theorem SS_istore_n {j : Fin 4} (i : Nat) (hd : decode cc pc = .ok (.istore_n j, 1)) (hi : (j : Nat) = i) : SS own cc ini pc (pc + 1) (w_istore i) := by
  intro p l e R s m args below meth c Y A Q K C hK G n k lc st h L H locs ls h1 h2 h3 h4 h5
  match st, h with
  | .inl x :: r, h =>
    obtain ⟨hl, h⟩ := setL_spec h
    exact lv_istore_n C.1 C.2.1 hd hi (lcs_has h5) hl rfl (fun ls' h' => hK _ _ _ _ _ h L H locs ls' h1 h2 h3 h4 (lcs_set (v := .inl x) h5 hl rfl h'))
  | .inr _ :: _, h => exact False.elim h
  | [], h => exact False.elim h
theorem SS_istore (i : Nat) (hd : decode cc pc = .ok (.istore i, 2)) : SS own cc ini pc (pc + 2) (w_istore i) := by
  intro p l e R s m args below meth c Y A Q K C hK G n k lc st h L H locs ls h1 h2 h3 h4 h5
  match st, h with
  | .inl x :: r, h =>
    obtain ⟨hl, h⟩ := setL_spec h
    exact lv_istore C.1 C.2.1 hd (lcs_has h5) hl rfl (fun ls' h' => hK _ _ _ _ _ h L H locs ls' h1 h2 h3 h4 (lcs_set (v := .inl x) h5 hl rfl h'))
  | .inr _ :: _, h => exact False.elim h
  | [], h => exact False.elim h
def w_astore (i : Nat) : WT := fun _ _ K G n k lc st => match st with | .inr (.inr o) :: r => setL lc i (.inr (.inr o)) (fun lc' => K G n k lc' r) | _ => False
theorem SS_astore_n {j : Fin 4} (i : Nat) (hd : decode cc pc = .ok (.astore_n j, 1)) (hi : (j : Nat) = i) : SS own cc ini pc (pc + 1) (w_astore i) := by
  intro p l e R s m args below meth c Y A Q K C hK G n k lc st h L H locs ls h1 h2 h3 h4 h5
  match st, h with
  | .inr (.inr none) :: r, h =>
    obtain ⟨hl, h⟩ := setL_spec h
    exact lv_astore_nN C.1 C.2.1 hd hi (lcs_has h5) hl rfl (fun ls' h' => hK _ _ _ _ _ h L H locs ls' h1 h2 h3 h4 (lcs_set (v := .inr (.inr none)) h5 hl rfl h'))
  | .inr (.inr (some a)) :: r, h =>
    obtain ⟨hl, h⟩ := setL_spec h
    exact lv_astore_n C.1 C.2.1 hd hi (lcs_has h5) hl rfl (fun ls' h' => hK _ _ _ _ _ h L H locs ls' h1 h2 h3 h4 (lcs_set (v := .inr (.inr (some a))) h5 hl rfl h'))
  | .inr (.inl _) :: _, h => exact False.elim h
  | .inl _ :: _, h => exact False.elim h
  | [], h => exact False.elim h
theorem SS_astore (i : Nat) (hd : decode cc pc = .ok (.astore i, 2)) : SS own cc ini pc (pc + 2) (w_astore i) := by
  intro p l e R s m args below meth c Y A Q K C hK G n k lc st h L H locs ls h1 h2 h3 h4 h5
  match st, h with
  | .inr (.inr none) :: r, h =>
    obtain ⟨hl, h⟩ := setL_spec h
    exact lv_astoreN C.1 C.2.1 hd (lcs_has h5) hl rfl (fun ls' h' => hK _ _ _ _ _ h L H locs ls' h1 h2 h3 h4 (lcs_set (v := .inr (.inr none)) h5 hl rfl h'))
  | .inr (.inr (some a)) :: r, h =>
    obtain ⟨hl, h⟩ := setL_spec h
    exact lv_astore C.1 C.2.1 hd (lcs_has h5) hl rfl (fun ls' h' => hK _ _ _ _ _ h L H locs ls' h1 h2 h3 h4 (lcs_set (v := .inr (.inr (some a))) h5 hl rfl h'))
  | .inr (.inl _) :: _, h => exact False.elim h
  | .inl _ :: _, h => exact False.elim h
  | [], h => exact False.elim h
def w_iinc (i : Nat) (d : Int32) : WT := fun _ _ K G n k lc st => getL lc i (fun v => match v with | .inl x => ∃ z, x + d = z ∧ setL lc i (.inl z) (fun lc' => K G n k lc' st) | _ => False)
theorem SS_iinc (i : Nat) {j : Int} {d : Int32} (hd : decode cc pc = .ok (.iinc i j, 3)) (hj : Int32.ofInt j = d) : SS own cc ini pc (pc + 3) (w_iinc i d) := by
  intro p l e R s m args below meth c Y A Q K C hK G n k lc st h L H locs ls h1 h2 h3 h4 h5
  obtain ⟨v, hv, h⟩ := getL_spec h
  match v, hv, h with
  | .inl x, hv, ⟨z, hz, h⟩ =>
    obtain ⟨hl, h⟩ := setL_spec h
    have hm : ((i, cvv (.inl x)) : Nat × Value) ∈ (List.range lc.length).filterMap (fun i => (lc[i]?).bind (fun o => o.map (fun v => (i, cvv v)))) := List.mem_filterMap.mpr ⟨i, List.mem_range.mpr hl, by rw [hv]; rfl⟩
    obtain ⟨k9, hk9⟩ := List.getElem?_of_mem hm
    exact lv_iinc C.1 C.2.1 hd (lcs_has h5) hk9 (by rw [hj]; exact hz) hl rfl (fun ls' h' => hK _ _ _ _ _ h L H locs ls' h1 h2 h3 h4 (lcs_set (v := .inl z) h5 hl rfl h'))
  | .inr _, hv, h => exact False.elim h
def w_iadd : WT := fun _ _ K G n k lc st => match st with | .inl y :: .inl x :: r => ∃ z, x + y = z ∧ K G n k lc (.inl z :: r) | _ => False
theorem SS_iadd (hd : decode cc pc = .ok (.iadd, 1)) : SS own cc ini pc (pc + 1) w_iadd := by
  intro p l e R s m args below meth c Y A Q K C hK G n k lc st h L H locs ls h1 h2 h3 h4 h5
  match st, h with
  | .inl y :: .inl x :: r, ⟨z, hz, h⟩ => exact lv_iadd C.1 C.2.1 hd (by rw [hz]; exact hK _ _ _ _ _ h L H locs ls h1 h2 h3 h4 h5)
  | .inl _ :: .inr _ :: _, h => exact False.elim h
  | .inl _ :: [], h => exact False.elim h
  | .inr _ :: _, h => exact False.elim h
  | [], h => exact False.elim h
def w_isub : WT := fun _ _ K G n k lc st => match st with | .inl y :: .inl x :: r => ∃ z, x - y = z ∧ K G n k lc (.inl z :: r) | _ => False
theorem SS_isub (hd : decode cc pc = .ok (.isub, 1)) : SS own cc ini pc (pc + 1) w_isub := by
  intro p l e R s m args below meth c Y A Q K C hK G n k lc st h L H locs ls h1 h2 h3 h4 h5
  match st, h with
  | .inl y :: .inl x :: r, ⟨z, hz, h⟩ => exact lv_isub C.1 C.2.1 hd (by rw [hz]; exact hK _ _ _ _ _ h L H locs ls h1 h2 h3 h4 h5)
  | .inl _ :: .inr _ :: _, h => exact False.elim h
  | .inl _ :: [], h => exact False.elim h
  | .inr _ :: _, h => exact False.elim h
  | [], h => exact False.elim h
def w_imul : WT := fun _ _ K G n k lc st => match st with | .inl y :: .inl x :: r => ∃ z, x * y = z ∧ K G n k lc (.inl z :: r) | _ => False
theorem SS_imul (hd : decode cc pc = .ok (.imul, 1)) : SS own cc ini pc (pc + 1) w_imul := by
  intro p l e R s m args below meth c Y A Q K C hK G n k lc st h L H locs ls h1 h2 h3 h4 h5
  match st, h with
  | .inl y :: .inl x :: r, ⟨z, hz, h⟩ => exact lv_imul C.1 C.2.1 hd (by rw [hz]; exact hK _ _ _ _ _ h L H locs ls h1 h2 h3 h4 h5)
  | .inl _ :: .inr _ :: _, h => exact False.elim h
  | .inl _ :: [], h => exact False.elim h
  | .inr _ :: _, h => exact False.elim h
  | [], h => exact False.elim h
def w_iand : WT := fun _ _ K G n k lc st => match st with | .inl y :: .inl x :: r => ∃ z, x &&& y = z ∧ K G n k lc (.inl z :: r) | _ => False
theorem SS_iand (hd : decode cc pc = .ok (.iand, 1)) : SS own cc ini pc (pc + 1) w_iand := by
  intro p l e R s m args below meth c Y A Q K C hK G n k lc st h L H locs ls h1 h2 h3 h4 h5
  match st, h with
  | .inl y :: .inl x :: r, ⟨z, hz, h⟩ => exact lv_iand C.1 C.2.1 hd (by rw [hz]; exact hK _ _ _ _ _ h L H locs ls h1 h2 h3 h4 h5)
  | .inl _ :: .inr _ :: _, h => exact False.elim h
  | .inl _ :: [], h => exact False.elim h
  | .inr _ :: _, h => exact False.elim h
  | [], h => exact False.elim h
def w_ior : WT := fun _ _ K G n k lc st => match st with | .inl y :: .inl x :: r => ∃ z, x ||| y = z ∧ K G n k lc (.inl z :: r) | _ => False
theorem SS_ior (hd : decode cc pc = .ok (.ior, 1)) : SS own cc ini pc (pc + 1) w_ior := by
  intro p l e R s m args below meth c Y A Q K C hK G n k lc st h L H locs ls h1 h2 h3 h4 h5
  match st, h with
  | .inl y :: .inl x :: r, ⟨z, hz, h⟩ => exact lv_ior C.1 C.2.1 hd (by rw [hz]; exact hK _ _ _ _ _ h L H locs ls h1 h2 h3 h4 h5)
  | .inl _ :: .inr _ :: _, h => exact False.elim h
  | .inl _ :: [], h => exact False.elim h
  | .inr _ :: _, h => exact False.elim h
  | [], h => exact False.elim h
def w_ixor : WT := fun _ _ K G n k lc st => match st with | .inl y :: .inl x :: r => ∃ z, x ^^^ y = z ∧ K G n k lc (.inl z :: r) | _ => False
theorem SS_ixor (hd : decode cc pc = .ok (.ixor, 1)) : SS own cc ini pc (pc + 1) w_ixor := by
  intro p l e R s m args below meth c Y A Q K C hK G n k lc st h L H locs ls h1 h2 h3 h4 h5
  match st, h with
  | .inl y :: .inl x :: r, ⟨z, hz, h⟩ => exact lv_ixor C.1 C.2.1 hd (by rw [hz]; exact hK _ _ _ _ _ h L H locs ls h1 h2 h3 h4 h5)
  | .inl _ :: .inr _ :: _, h => exact False.elim h
  | .inl _ :: [], h => exact False.elim h
  | .inr _ :: _, h => exact False.elim h
  | [], h => exact False.elim h
def w_ishl : WT := fun _ _ K G n k lc st => match st with | .inl y :: .inl x :: r => ∃ z, x <<< (y &&& 31) = z ∧ K G n k lc (.inl z :: r) | _ => False
theorem SS_ishl (hd : decode cc pc = .ok (.ishl, 1)) : SS own cc ini pc (pc + 1) w_ishl := by
  intro p l e R s m args below meth c Y A Q K C hK G n k lc st h L H locs ls h1 h2 h3 h4 h5
  match st, h with
  | .inl y :: .inl x :: r, ⟨z, hz, h⟩ => exact lv_ishl C.1 C.2.1 hd (by rw [hz]; exact hK _ _ _ _ _ h L H locs ls h1 h2 h3 h4 h5)
  | .inl _ :: .inr _ :: _, h => exact False.elim h
  | .inl _ :: [], h => exact False.elim h
  | .inr _ :: _, h => exact False.elim h
  | [], h => exact False.elim h
def w_ishr : WT := fun _ _ K G n k lc st => match st with | .inl y :: .inl x :: r => ∃ z, x >>> (y &&& 31) = z ∧ K G n k lc (.inl z :: r) | _ => False
theorem SS_ishr (hd : decode cc pc = .ok (.ishr, 1)) : SS own cc ini pc (pc + 1) w_ishr := by
  intro p l e R s m args below meth c Y A Q K C hK G n k lc st h L H locs ls h1 h2 h3 h4 h5
  match st, h with
  | .inl y :: .inl x :: r, ⟨z, hz, h⟩ => exact lv_ishr C.1 C.2.1 hd (by rw [hz]; exact hK _ _ _ _ _ h L H locs ls h1 h2 h3 h4 h5)
  | .inl _ :: .inr _ :: _, h => exact False.elim h
  | .inl _ :: [], h => exact False.elim h
  | .inr _ :: _, h => exact False.elim h
  | [], h => exact False.elim h
def w_idiv : WT := fun _ _ K G n k lc st => match st with | .inl y :: .inl x :: r => (¬ y = 0) ∧ ∃ z, x / y = z ∧ K G n k lc (.inl z :: r) | _ => False
theorem SS_idiv (hd : decode cc pc = .ok (.idiv, 1)) : SS own cc ini pc (pc + 1) w_idiv := by
  intro p l e R s m args below meth c Y A Q K C hK G n k lc st h L H locs ls h1 h2 h3 h4 h5
  match st, h with
  | .inl y :: .inl x :: r, ⟨hy, z, hz, h⟩ => exact lv_idiv C.1 C.2.1 hd hy (by rw [hz]; exact hK _ _ _ _ _ h L H locs ls h1 h2 h3 h4 h5)
  | .inl _ :: .inr _ :: _, h => exact False.elim h
  | .inl _ :: [], h => exact False.elim h
  | .inr _ :: _, h => exact False.elim h
  | [], h => exact False.elim h
def w_irem : WT := fun _ _ K G n k lc st => match st with | .inl y :: .inl x :: r => (¬ y = 0) ∧ ∃ z, x - x / y * y = z ∧ K G n k lc (.inl z :: r) | _ => False
theorem SS_irem (hd : decode cc pc = .ok (.irem, 1)) : SS own cc ini pc (pc + 1) w_irem := by
  intro p l e R s m args below meth c Y A Q K C hK G n k lc st h L H locs ls h1 h2 h3 h4 h5
  match st, h with
  | .inl y :: .inl x :: r, ⟨hy, z, hz, h⟩ => exact lv_irem C.1 C.2.1 hd hy (by rw [hz]; exact hK _ _ _ _ _ h L H locs ls h1 h2 h3 h4 h5)
  | .inl _ :: .inr _ :: _, h => exact False.elim h
  | .inl _ :: [], h => exact False.elim h
  | .inr _ :: _, h => exact False.elim h
  | [], h => exact False.elim h
def w_lor : WT := fun _ _ K G n k lc st => match st with | .inr (.inl y) :: .inr (.inl x) :: r => ∃ z, x ||| y = z ∧ K G n k lc (.inr (.inl z) :: r) | _ => False
theorem SS_lor (hd : decode cc pc = .ok (.lor, 1)) : SS own cc ini pc (pc + 1) w_lor := by
  intro p l e R s m args below meth c Y A Q K C hK G n k lc st h L H locs ls h1 h2 h3 h4 h5
  unfold w_lor at h
  split at h
  · obtain ⟨z, hz, h⟩ := h
    exact lv_lor C.1 C.2.1 hd (by rw [hz]; exact hK _ _ _ _ _ h L H locs ls h1 h2 h3 h4 h5)
  · exact False.elim h
def w_land : WT := fun _ _ K G n k lc st => match st with | .inr (.inl y) :: .inr (.inl x) :: r => ∃ z, x &&& y = z ∧ K G n k lc (.inr (.inl z) :: r) | _ => False
theorem SS_land (hd : decode cc pc = .ok (.land, 1)) : SS own cc ini pc (pc + 1) w_land := by
  intro p l e R s m args below meth c Y A Q K C hK G n k lc st h L H locs ls h1 h2 h3 h4 h5
  unfold w_land at h
  split at h
  · obtain ⟨z, hz, h⟩ := h
    exact lv_land C.1 C.2.1 hd (by rw [hz]; exact hK _ _ _ _ _ h L H locs ls h1 h2 h3 h4 h5)
  · exact False.elim h
def w_lshl : WT := fun _ _ K G n k lc st => match st with | .inl y :: .inr (.inl x) :: r => ∃ z, x <<< (y.toInt64 &&& 63) = z ∧ K G n k lc (.inr (.inl z) :: r) | _ => False
theorem SS_lshl (hd : decode cc pc = .ok (.lshl, 1)) : SS own cc ini pc (pc + 1) w_lshl := by
  intro p l e R s m args below meth c Y A Q K C hK G n k lc st h L H locs ls h1 h2 h3 h4 h5
  unfold w_lshl at h
  split at h
  · obtain ⟨z, hz, h⟩ := h
    exact lv_lshl C.1 C.2.1 hd hz (hK _ _ _ _ _ h L H locs ls h1 h2 h3 h4 h5)
  · exact False.elim h
def w_lshr : WT := fun _ _ K G n k lc st => match st with | .inl y :: .inr (.inl x) :: r => ∃ z, x >>> (y.toInt64 &&& 63) = z ∧ K G n k lc (.inr (.inl z) :: r) | _ => False
theorem SS_lshr (hd : decode cc pc = .ok (.lshr, 1)) : SS own cc ini pc (pc + 1) w_lshr := by
  intro p l e R s m args below meth c Y A Q K C hK G n k lc st h L H locs ls h1 h2 h3 h4 h5
  unfold w_lshr at h
  split at h
  · obtain ⟨z, hz, h⟩ := h
    exact lv_lshr C.1 C.2.1 hd hz (hK _ _ _ _ _ h L H locs ls h1 h2 h3 h4 h5)
  · exact False.elim h
def w_lcmp : WT := fun _ _ K G n k lc st => match st with | .inr (.inl y) :: .inr (.inl x) :: r => ∃ z, lg_cmp x y = z ∧ K G n k lc (.inl z :: r) | _ => False
theorem SS_lcmp (hd : decode cc pc = .ok (.lcmp, 1)) : SS own cc ini pc (pc + 1) w_lcmp := by
  intro p l e R s m args below meth c Y A Q K C hK G n k lc st h L H locs ls h1 h2 h3 h4 h5
  unfold w_lcmp at h
  split at h
  · obtain ⟨z, hz, h⟩ := h
    exact W.lcmp C.1 C.2.1 hd (by rw [hz]; exact hK _ _ _ _ _ h L H locs ls h1 h2 h3 h4 h5)
  · exact False.elim h
def w_i2l : WT := fun _ _ K G n k lc st => match st with | .inl x :: r => ∃ z, x.toInt64 = z ∧ K G n k lc (.inr (.inl z) :: r) | _ => False
theorem SS_i2l (hd : decode cc pc = .ok (.i2l, 1)) : SS own cc ini pc (pc + 1) w_i2l := by
  intro p l e R s m args below meth c Y A Q K C hK G n k lc st h L H locs ls h1 h2 h3 h4 h5
  unfold w_i2l at h
  split at h
  · obtain ⟨z, hz, h⟩ := h
    exact lv_i2l C.1 C.2.1 hd hz (hK _ _ _ _ _ h L H locs ls h1 h2 h3 h4 h5)
  · exact False.elim h
def sm (v : AV) : Bool := match v with | .inr (.inl _) => false | _ => true
theorem sm_cat {v : AV} (h : sm v = true) : (cvv v).category = 1 := by
  match v, h with
  | .inl _, _ => rfl
  | .inr (.inr o), _ => exact va_rf_cat o
def w_dup : WT := fun _ _ K G n k lc st => match st with | .inl x :: r => K G n k lc (.inl x :: .inl x :: r) | .inr (.inr o) :: r => K G n k lc (.inr (.inr o) :: .inr (.inr o) :: r) | _ => False
theorem SS_dup (hd : decode cc pc = .ok (.dup, 1)) : SS own cc ini pc (pc + 1) w_dup := by
  intro p l e R s m args below meth c Y A Q K C hK G n k lc st h L H locs ls h1 h2 h3 h4 h5
  unfold w_dup at h
  split at h
  · exact lv_dup C.1 C.2.1 hd rfl (hK _ _ _ _ _ h L H locs ls h1 h2 h3 h4 h5)
  · exact lv_dup C.1 C.2.1 hd (va_rf_cat _) (hK _ _ _ _ _ h L H locs ls h1 h2 h3 h4 h5)
  · exact False.elim h
def w_pop : WT := fun _ _ K G n k lc st => match st with | .inl _ :: r => K G n k lc r | .inr (.inr _) :: r => K G n k lc r | _ => False
theorem SS_pop (hd : decode cc pc = .ok (.pop, 1)) : SS own cc ini pc (pc + 1) w_pop := by
  intro p l e R s m args below meth c Y A Q K C hK G n k lc st h L H locs ls h1 h2 h3 h4 h5
  unfold w_pop at h
  split at h
  · exact lv_pop C.1 C.2.1 hd rfl (hK _ _ _ _ _ h L H locs ls h1 h2 h3 h4 h5)
  · exact lv_pop C.1 C.2.1 hd (va_rf_cat _) (hK _ _ _ _ _ h L H locs ls h1 h2 h3 h4 h5)
  · exact False.elim h
def w_dup_x1 : WT := fun _ _ K G n k lc st => match st with | .inl x :: .inr (.inr o) :: r => K G n k lc (.inl x :: .inr (.inr o) :: .inl x :: r) | .inr (.inr q) :: .inr (.inr o) :: r => K G n k lc (.inr (.inr q) :: .inr (.inr o) :: .inr (.inr q) :: r) | _ => False
theorem SS_dup_x1 (hd : decode cc pc = .ok (.dup_x1, 1)) : SS own cc ini pc (pc + 1) w_dup_x1 := by
  intro p l e R s m args below meth c Y A Q K C hK G n k lc st h L H locs ls h1 h2 h3 h4 h5
  unfold w_dup_x1 at h
  split at h
  · exact lv_dup_x1 C.1 C.2.1 hd rfl (va_rf_cat _) (hK _ _ _ _ _ h L H locs ls h1 h2 h3 h4 h5)
  · exact lv_dup_x1 C.1 C.2.1 hd (va_rf_cat _) (va_rf_cat _) (hK _ _ _ _ _ h L H locs ls h1 h2 h3 h4 h5)
  · exact False.elim h
def w_dup2 : WT := fun _ _ K G n k lc st => match st with | .inl x :: .inr (.inr o) :: r => K G n k lc (.inl x :: .inr (.inr o) :: .inl x :: .inr (.inr o) :: r) | _ => False
theorem SS_dup2 (hd : decode cc pc = .ok (.dup2, 1)) : SS own cc ini pc (pc + 1) w_dup2 := by
  intro p l e R s m args below meth c Y A Q K C hK G n k lc st h L H locs ls h1 h2 h3 h4 h5
  unfold w_dup2 at h
  split at h
  · exact lv_dup2_11 C.1 C.2.1 hd rfl (va_rf_cat _) (hK _ _ _ _ _ h L H locs ls h1 h2 h3 h4 h5)
  · exact False.elim h
end VROWS
