/-! natives over the pure heap: System.arraycopy, getClass, a class object -/
theorem qx_acA : Jvm.Cond.methodLink "java/util/Arrays" (150 : Nat) ({ cls := "java/lang/System", name := "arraycopy", desc := "(Ljava/lang/Object;ILjava/lang/Object;II)V" } : Jvm.MethodName) ∈ tg := tg_in (su_1_7 _ (List.mem_append_left cs_1_8 (show _ ∈ ch_1_7 from List.mem_cons_of_mem _ (List.mem_cons_of_mem _ (List.mem_cons_of_mem _ (List.mem_cons_self)))))) rfl
theorem qx_acL : Jvm.Cond.methodLink "java/util/ArrayList" (112 : Nat) ({ cls := "java/lang/System", name := "arraycopy", desc := "(Ljava/lang/Object;ILjava/lang/Object;II)V" } : Jvm.MethodName) ∈ tg := tg_in (su_2_6 _ (List.mem_append_left cs_2_7 (show _ ∈ ch_2_6 from List.mem_cons_of_mem _ (List.mem_cons_of_mem _ (List.mem_cons_of_mem _ (List.mem_cons_of_mem _ (List.mem_cons_of_mem _ (List.mem_cons_self)))))))) rfl
theorem qx_acS : Jvm.Cond.static ({ cls := "java/lang/System", name := "arraycopy", desc := "(Ljava/lang/Object;ILjava/lang/Object;II)V" } : Jvm.MethodName) ∈ tg := tg_in (su_1_7 _ (List.mem_append_left cs_1_8 (show _ ∈ ch_1_7 from List.mem_cons_of_mem _ (List.mem_cons_of_mem _ (List.mem_cons_of_mem _ (List.mem_cons_of_mem _ (List.mem_cons_self))))))) rfl
theorem qx_acN : Jvm.Cond.native ({ cls := "java/lang/System", name := "arraycopy", desc := "(Ljava/lang/Object;ILjava/lang/Object;II)V" } : Jvm.MethodName) ∈ tg := tg_in (su_1_7 _ (List.mem_append_left cs_1_8 (show _ ∈ ch_1_7 from List.mem_cons_of_mem _ (List.mem_cons_of_mem _ (List.mem_cons_of_mem _ (List.mem_cons_of_mem _ (List.mem_cons_of_mem _ (List.mem_cons_self)))))))) rfl
theorem qx_acI : Jvm.Cond.initialized "java/lang/System" ∈ tg := tg_in (su_0_0 _ (List.mem_append_left cs_0_1 (show _ ∈ ch_0_0 from List.mem_cons_of_mem _ (List.mem_cons_of_mem _ (List.mem_cons_of_mem _ (List.mem_cons_of_mem _ (List.mem_cons_of_mem _ (List.mem_cons_of_mem _ (List.mem_cons_of_mem _ (List.mem_cons_of_mem _ (List.mem_cons_of_mem _ (List.mem_cons_of_mem _ (List.mem_cons_of_mem _ (List.mem_cons_of_mem _ (List.mem_cons_of_mem _ (List.mem_cons_of_mem _ (List.mem_cons_of_mem _ (List.mem_cons_self)))))))))))))))))) rfl
theorem qx_gcL : Jvm.Cond.methodLink "java/util/Arrays" (86 : Nat) ({ cls := "java/lang/Object", name := "getClass", desc := "()Ljava/lang/Class;" } : Jvm.MethodName) ∈ tg := tg_in (su_1_6 _ (List.mem_append_left cs_1_7 (show _ ∈ ch_1_6 from List.mem_cons_of_mem _ (List.mem_cons_self)))) rfl
theorem qx_gcS : Jvm.Cond.selects "[Ljava/lang/Object;" ({ cls := "java/lang/Object", name := "getClass", desc := "()Ljava/lang/Class;" } : Jvm.MethodName) ({ cls := "java/lang/Object", name := "getClass", desc := "()Ljava/lang/Class;" } : Jvm.MethodName) ∈ tg := tg_in (su_6_4 _ (List.mem_append_left cs_6_5 (show _ ∈ ch_6_4 from List.mem_cons_of_mem _ (List.mem_cons_of_mem _ (List.mem_cons_of_mem _ (List.mem_cons_of_mem _ (List.mem_cons_of_mem _ (List.mem_cons_of_mem _ (List.mem_cons_of_mem _ (List.mem_cons_of_mem _ (List.mem_cons_of_mem _ (List.mem_cons_of_mem _ (List.mem_cons_of_mem _ (List.mem_cons_of_mem _ (List.mem_cons_of_mem _ (List.mem_cons_of_mem _ (List.mem_cons_of_mem _ (List.mem_cons_of_mem _ (List.mem_cons_of_mem _ (List.mem_cons_self)))))))))))))))))))) rfl
theorem qx_gcI : Jvm.Cond.instanceMethod ({ cls := "java/lang/Object", name := "getClass", desc := "()Ljava/lang/Class;" } : Jvm.MethodName) ∈ tg := tg_in (su_1_6 _ (List.mem_append_left cs_1_7 (show _ ∈ ch_1_6 from List.mem_cons_of_mem _ (List.mem_cons_of_mem _ (List.mem_cons_self))))) rfl
theorem qx_gcN : Jvm.Cond.native ({ cls := "java/lang/Object", name := "getClass", desc := "()Ljava/lang/Class;" } : Jvm.MethodName) ∈ tg := tg_in (su_1_6 _ (List.mem_append_left cs_1_7 (show _ ∈ ch_1_6 from List.mem_cons_of_mem _ (List.mem_cons_of_mem _ (List.mem_cons_of_mem _ (List.mem_cons_of_mem _ (List.mem_cons_of_mem _ (List.mem_cons_of_mem _ (List.mem_cons_of_mem _ (List.mem_cons_of_mem _ (List.mem_cons_of_mem _ (List.mem_cons_of_mem _ (List.mem_cons_of_mem _ (List.mem_cons_of_mem _ (List.mem_cons_of_mem _ (List.mem_cons_of_mem _ (List.mem_cons_of_mem _ (List.mem_cons_of_mem _ (List.mem_cons_of_mem _ (List.mem_cons_self)))))))))))))))))))) rfl
theorem qx_ldc : Jvm.Cond.classLink "java/util/Arrays" (110 : Nat) "[Ljava/lang/Object;" ∈ tg := tg_in (su_1_6 _ (List.mem_append_left cs_1_7 (show _ ∈ ch_1_6 from List.mem_cons_of_mem _ (List.mem_cons_of_mem _ (List.mem_cons_of_mem _ (List.mem_cons_of_mem _ (List.mem_cons_of_mem _ (List.mem_cons_of_mem _ (List.mem_cons_of_mem _ (List.mem_cons_of_mem _ (List.mem_cons_of_mem _ (List.mem_cons_of_mem _ (List.mem_cons_of_mem _ (List.mem_cons_of_mem _ (List.mem_cons_of_mem _ (List.mem_cons_of_mem _ (List.mem_cons_of_mem _ (List.mem_cons_of_mem _ (List.mem_cons_of_mem _ (List.mem_cons_of_mem _ (List.mem_cons_of_mem _ (List.mem_cons_of_mem _ (List.mem_cons_of_mem _ (List.mem_cons_self)))))))))))))))))))))))) rfl
section NATV
variable {p : Program} {l : Launch} {e : Env} {R : Room} {s : State} {m : MethodId} {args : Array Value} {below : List Frame} {meth : Method} {c : Code} {Y : YT} {A : Nat → Prop} {Q : State → Prop} {own : String} {cc : ByteArray} {ini : Prop} {pc n k i nL : Nat} {lc : List (Option AV)} {rest : List AV} {G : GH} {ret : Option FieldType}
theorem nI_nneg {k : Nat} (h : k < 2 ^ 31) : ¬ nI k < 0 := fun q => absurd q (nI_pos h)
theorem V_copyi {a0 a n0 n1 sp dp q : Nat} {f g : Nat → Int32} (C : Cx p s m args c meth Y A own cc ini) (X : Rx meth c ret nL) (hl : Jvm.Cond.methodLink own i arraycopyName ∈ tg) (hd : decode cc pc = .ok (.invokestatic i, 3)) (hlc : lc.length = nL) (hR : 1 ≤ R.frames ∧ 40 ≤ R.locals) (hrl : rest.length ≤ 4)
    (h0 : G a0 = some (.inl (0, n0, .inl f))) (ha : G a = some (.inl (0, n1, .inl g))) (hn0 : n0 ≤ 100000) (hn1 : n1 ≤ 100000) (hs : sp + q ≤ n0) (ht : dp + q ≤ n1)
    (kk : V p l e R s m args below meth c Y A Q (pc + 3) (va_up G a (some (.inl (0, n1, .inl (va_cpy f g sp dp q))))) n k lc rest) : V p l e R s m args below meth c Y A Q pc G n k lc (.inl (nI q) :: .inl (nI dp) :: .inr (.inr (some a)) :: .inl (nI sp) :: .inr (.inr (some a0)) :: rest) := by
  intro L H locs ls h1 h2 h3 h4 h5
  have hcat := room_cat hrl
  obtain ⟨q0, hq0⟩ := GL_idx (Y := Y) h1 h0
  obtain ⟨q1, hq1⟩ := GL_idx (Y := Y) h1 ha
  have hset := GL_set (e' := .inl (0, n1, .inl (va_cpy f g sp dp q))) h1 ha h3 hq1
  refine va_copyi (D := Y.1) (tys := tysY Y) (ty := .int) C.1 C.2.1 (by rw [X.2.2]; exact (h5.1.trans hlc).symm) C.2.2.1 (C.2.2.2.1 _ hl) (C.2.2.2.1 _ qx_acN) (C.2.2.2.1 _ qx_acS) (C.2.2.2.1 _ qx_acI) C.2.2.2.2.1.1 h2 h3 h4 q0 q1 0 0 hq0 hq1 rfl rfl rfl (nI_nneg (by omega)) (nI_nneg (by omega)) (nI_nneg (by omega)) (by rw [nI_clamp (by omega), nI_clamp (by omega)]; exact hs) (by rw [nI_clamp (by omega), nI_clamp (by omega)]; exact ht) (fun _ _ => rfl) hR.1 ?_ hd (fun H1 locs1 g2 g3 g4 => ?_)
  · have hw : nativeFrameWords "java/lang/System" "arraycopy" 5 ≤ 15 := by decide
    have := hR.2
    omega
  · rw [nI_clamp (by omega), nI_clamp (by omega), nI_clamp (by omega)] at g2 g3
    exact kk L H1 locs1 ls (GL_up h1 ha) (hset ▸ g2) (hset ▸ g3) g4 h5
/-- the same, of references (stages and works) -/
theorem V_copyq {a0 a n0 n1 sp dp q : Nat} {f g : Nat → Option Nat} (C : Cx p s m args c meth Y A own cc ini) (X : Rx meth c ret nL) (hl : Jvm.Cond.methodLink own i arraycopyName ∈ tg) (hd : decode cc pc = .ok (.invokestatic i, 3)) (hlc : lc.length = nL) (hR : 1 ≤ R.frames ∧ 40 ≤ R.locals) (hrl : rest.length ≤ 4)
    (h0 : G a0 = some (.inl (6, n0, .inr (.inr (.inr (.inr f)))))) (ha : G a = some (.inl (6, n1, .inr (.inr (.inr (.inr g)))))) (hn0 : n0 ≤ 100000) (hn1 : n1 ≤ 100000) (hs : sp + q ≤ n0) (ht : dp + q ≤ n1) (hel : ∀ j, j < q → ∀ y, f (sp + j) = some y → ∃ ci fs, G y = some (.inr (ci, fs)) ∧ ci ∈ [6, 7])
    (kk : V p l e R s m args below meth c Y A Q (pc + 3) (va_up G a (some (.inl (6, n1, .inr (.inr (.inr (.inr (va_cpy f g sp dp q)))))))) n k lc rest) : V p l e R s m args below meth c Y A Q pc G n k lc (.inl (nI q) :: .inl (nI dp) :: .inr (.inr (some a)) :: .inl (nI sp) :: .inr (.inr (some a0)) :: rest) := by
  intro L H locs ls h1 h2 h3 h4 h5
  have hcat := room_cat hrl
  obtain ⟨q0, hq0⟩ := GL_idx (Y := Y) h1 h0
  obtain ⟨q1, hq1⟩ := GL_idx (Y := Y) h1 ha
  have hset := GL_set (e' := .inl (6, n1, .inr (.inr (.inr (.inr (va_cpy f g sp dp q)))))) h1 ha h3 hq1
  have esp := nI_clamp (n := sp) (by omega)
  have edp := nI_clamp (n := dp) (by omega)
  have eq := nI_clamp (n := q) (by omega)
  have hK := C.2.2.2.2.1.1
  have ty6 : (tysY Y)[6]? = some (Y.2.1 6, .object "java/lang/Object") := rfl
  obtain ⟨-, k0, hk0, cm0, hkk0⟩ := (hK.2 6 _ ty6).1 n0 (fun j => va_rf (f j))
  obtain ⟨-, k1, hk1, cm1, hkk1⟩ := (hK.2 6 _ ty6).1 n1 (fun j => va_rf (g j))
  have hc0 : H[a0]? = some (vp_cell (Y.2.1 6) (n0, .inr (.inr (.inr (.inr f))))) := h2 q0 _ hq0
  have hc1 : H[a]? = some (vp_cell (Y.2.1 6) (n1, .inr (.inr (.inr (.inr g))))) := h2 q1 _ hq1
  intro T hT XT
  obtain ⟨vm', X', step⟩ := XT.arraycopy C.1 C.2.2.1 (C.2.2.2.1 _ hl) (C.2.2.2.1 _ qx_acN) (C.2.2.2.1 _ qx_acS) (C.2.2.2.1 _ qx_acI) (src := a0) (dst := a) (cs := vp_cell (Y.2.1 6) (n0, .inr (.inr (.inr (.inr f))))) (cd := vp_cell (Y.2.1 6) (n1, .inr (.inr (.inr (.inr g))))) (srcPos := nI sp) (destPos := nI dp) (n := nI q) (by rw [hT]; exact hc0) (by rw [hT]; exact hc1)
    (fun _ h => by cases h) (fun _ h => by cases h) (fun h => by cases h) (fun h => by cases h) hk0 hk1 hkk0 hkk1 rfl (nI_nneg (by omega)) (nI_nneg (by omega)) (nI_nneg (by omega))
    (by rw [nI_toInt (by omega), nI_toInt (by omega)]; show ¬ _ > ((arrV (Y.2.1 6) n0 (fun j => va_rf (f j))).slots.size : Int); rw [arrV_size]; omega)
    (by rw [nI_toInt (by omega), nI_toInt (by omega)]; show ¬ _ > ((arrV (Y.2.1 6) n1 (fun j => va_rf (g j))).slots.size : Int); rw [arrV_size]; omega)
    (fun vm₁ hal j hj => by
      rw [eq] at hj
      rw [esp]
      have e9 : (vp_cell (Y.2.1 6) (n0, .inr (.inr (.inr (.inr f))))).slots.getD (sp + j) .null = va_rf (f (sp + j)) := by
        show (arrV (Y.2.1 6) n0 (fun j => va_rf (f j))).slots.getD _ _ = _
        rw [Array.getD_eq_getD_getElem?, arrV_read _ _ (by omega)]
        rfl
      rw [e9]
      cases hy : f (sp + j) with
      | none => exact ⟨rfl, trivial⟩
      | some y =>
        obtain ⟨ci, fs, hG, hm⟩ := hel j hj y hy
        have hci : aaOk 6 ci := by
          simp only [List.mem_cons, List.not_mem_nil, or_false] at hm
          rcases hm with rfl | rfl
          · exact ⟨_, rfl, Or.inr (by decide +kernel)⟩
          · exact ⟨_, rfl, Or.inr (by decide +kernel)⟩
        obtain ⟨r9, hc9, hw9⟩ := hci
        have hw : (r9.1, "java/lang/Object") ∈ tnC := by
          simp only [List.mem_cons, List.not_mem_nil, or_false] at hm
          rcases hm with rfl | rfl
          · cases hc9; decide +kernel
          · cases hc9; decide +kernel
        obtain ⟨cellV, g1, g2, g3⟩ := G_recv C h1 h2 hG hc9
        obtain ⟨kA, comp, r1, r2, r3, -⟩ := (hK.2 6 _ ty6).2
        cases hk1.symm.trans r1
        cases hkk1.symm.trans r2
        obtain ⟨c8, t8, f1, f2, f3⟩ := Cond.castable_spec (va_Nw.use (A := args) rfl (C.2.2.2.2.1.2.2.2.2.2.1 _ hw))
        cases g3.symm.trans f1
        cases r3.symm.trans f2
        obtain ⟨kC, hkC, -⟩ := Vm.findClass_spec g3
        obtain ⟨kE, hkE, -⟩ := Vm.findClass_spec r3
        obtain ⟨kC', hkC', -⟩ := hal.2.2 _ _ hkC
        obtain ⟨kE', hkE', -⟩ := hal.2.2 _ _ hkE
        refine ⟨rfl, cellV, (show T.heap[y]? = some cellV by rw [hT]; exact g1), (fun q h => by rw [h] at g2; cases g2), ⟨kC', hkC'⟩, ⟨kE', hkE'⟩, ?_⟩
        show vm₁.assignable _ _ = true
        rw [hal.assignable]
        exact f3)
    (g := F0 m pc ls (.int (nI q) :: .int (nI dp) :: .ref a :: .int (nI sp) :: .ref a0 :: rest.map cvv)) rfl (by rw [X.2.2]; exact h5.1.trans hlc) (rest := rest.map cvv) rfl (by rw [C.2.1]; exact hd) hR.1 (by
      have hw : nativeFrameWords "java/lang/System" "arraycopy" 5 ≤ 15 := by decide
      have := hR.2
      show 2 * 0 + _ + _ ≤ _
      omega)
  have e1 : copied (vp_cell (Y.2.1 6) (n0, .inr (.inr (.inr (.inr f))))) (vp_cell (Y.2.1 6) (n1, .inr (.inr (.inr (.inr g))))) (nI sp) (nI dp) (nI q) = vp_cell (Y.2.1 6) (n1, .inr (.inr (.inr (.inr (va_cpy f g sp dp q))))) := by
    rw [vp_cell_q, vp_cell_q, vp_cell_q]
    unfold copied
    rw [esp, edp, eq]
    exact va_copied (fun z => va_rf z) (Y.2.1 6) (Y.2.1 6) f g hs
  rw [e1] at X' step
  have hl9 : a < H.size := (Array.getElem?_eq_some_iff.mp hc1).1
  have hheap : ((T.setVm vm').setCell a (vp_cell (Y.2.1 6) (n1, .inr (.inr (.inr (.inr (va_cpy f g sp dp q))))))).heap = H.setIfInBounds a (vp_cell (Y.2.1 6) (n1, .inr (.inr (.inr (.inr (va_cpy f g sp dp q)))))) := by rw [← hT]; rfl
  have oq : ∀ z : Nat, z ≠ a → (H.setIfInBounds a (vp_cell (Y.2.1 6) (n1, .inr (.inr (.inr (.inr (va_cpy f g sp dp q)))))))[z]? = H[z]? := fun z hz => by simp [Array.getElem?_setIfInBounds, Ne.symm hz]
  have g2 := h2.set (e := .inl (Y.2.1 6, n1, .inr (.inr (.inr (.inr (va_cpy f g sp dp q)))))) h3 hq1 (show (H.setIfInBounds a (vp_cell (Y.2.1 6) (n1, .inr (.inr (.inr (.inr (va_cpy f g sp dp q)))))))[a]? = some _ by simp [Array.getElem?_setIfInBounds, hl9]) oq
  have g3 := h3.set (e := .inl (Y.2.1 6, n1, .inr (.inr (.inr (.inr (va_cpy f g sp dp q)))))) hq1
  obtain ⟨t, a1, b1⟩ := kk L _ _ ls (GL_up h1 ha) (hset ▸ g2) (hset ▸ g3) ⟨by simp; exact h4.1, fun z y1 y2 => by
      rw [oq z (fun e => y2 (by rw [e]; exact h3.2 q1 _ hq1))]
      exact h4.2.1 z y1 y2, fun z hz => by
      rcases List.mem_append.mp hz with h | h
      · exact h4.2.2 z h
      · obtain ⟨y, -, hy⟩ := List.mem_map.mp h
        rw [← hy]
        exact h3.2 q1 _ hq1⟩ h5 _ hheap X'
  exact ⟨t, step t a1, b1⟩
/-- the class object of Object[] -/
theorem V_ldcM (C : Cx p s m args c meth Y A own cc ini) (hl : Jvm.Cond.classLink own i "[Ljava/lang/Object;" ∈ tg) (hd : decode cc pc = .ok (.ldc i, 2)) (kk : V p l e R s m args below meth c Y A Q (pc + 2) G n k lc (.inr (.inr (some (Y.2.2 1))) :: rest)) : V p l e R s m args below meth c Y A Q pc G n k lc rest := by
  intro L H locs ls h1 h2 h3 h4 h5
  exact va_ldcM C.1 C.2.1 C.2.2.1 (C.2.2.2.1 _ hl) C.2.2.2.2.1.2.2.2.2.1 hd (kk L H locs ls h1 h2 h3 h4 h5)
theorem V_getC {a N : Nat} {z : Nat → Option Nat} (C : Cx p s m args c meth Y A own cc ini) (X : Rx meth c ret nL) (hl : Jvm.Cond.methodLink own i ⟨"java/lang/Object", "getClass", "()Ljava/lang/Class;"⟩ ∈ tg) (hd : decode cc pc = .ok (.invokevirtual i, 3)) (hlc : lc.length = nL) (hR : 1 ≤ R.frames ∧ 40 ≤ R.locals) (hrl : rest.length ≤ 4) (ha : G a = some (.inl (6, N, .inr (.inr (.inr (.inr z))))))
    (kk : V p l e R s m args below meth c Y A Q (pc + 3) G n k lc (.inr (.inr (some (Y.2.2 1))) :: rest)) : V p l e R s m args below meth c Y A Q pc G n k lc (.inr (.inr (some a)) :: rest) := by
  intro L H locs ls h1 h2 h3 h4 h5
  have hcat := room_cat hrl
  obtain ⟨q0, hq0⟩ := GL_idx (Y := Y) h1 ha
  have hc : H[a]? = some (vp_cell (Y.2.1 6) (N, .inr (.inr (.inr (.inr z))))) := h2 q0 _ hq0
  have ty6 : (tysY Y)[6]? = some (Y.2.1 6, .object "java/lang/Object") := rfl
  have hf : s.vm.findClass "[Ljava/lang/Object;" = some (Y.2.1 6) := va_nmO (C.2.2.2.2.1.1.2 6 _ ty6).2 (by decide +kernel)
  exact va_getC C.1 C.2.1 (by rw [X.2.2]; exact (h5.1.trans hlc).symm) C.2.2.1 (C.2.2.2.1 _ hl) (va_Dc.use C.2.2.2.2.1.2.2.2.2.2.2.2.2) (C.2.2.2.1 _ qx_gcS) (C.2.2.2.1 _ qx_gcI) (C.2.2.2.1 _ qx_gcN) C.2.2.2.2.1.2.2.2.2.1 ⟨_, hc, rfl, hf⟩ hR.1 (by have := hR.2; omega) hd (kk L H locs ls h1 h2 h3 h4 h5)
end NATV
