/-! the JDK's small methods -/
/-- the same, of a method of a class that has natives too -/
theorem Ct.ofF {l : Launch} {y : MethodName} {cc : ByteArray} {maxL : Nat} {ret : Option FieldType} {rm : Room} {Y : YT} {av : List AV} {G : GH} {post : Option AV → GH → Prop} {ini : Prop} (hy : plainFor y = true) (hi : ini → y.name = "<init>") (hs : av.all sm = true) (hl : av.length ≤ maxL)
    (body : ∀ (p : Program) (e : Env) (s : State) (m : MethodId) (args : Array Value) (below : List Frame) (meth : Method) (c : Code), Cx p s m args c meth Y (GA G s.heap.size) y.cls cc ini → Rx meth c ret maxL → V p l e rm s m args below meth c Y (GA G s.heap.size) (QM below args s rm Y G post) 0 G 0 0 (lc0 av maxL) []) : Ct l y cc maxL ret rm Y av G post := by
  intro sz
  refine va_MetF (cc := cc) (maxL := maxL) (ret := ret) hy rfl ?_
  intro p e s m args below meth c s₁ B hml hv
  obtain ⟨rfl, hsz, ⟨L, hL, hP, hD⟩, hK⟩ := hv
  subst hsz
  have hts := atoms_spec (ws := .code y cc maxL ret :: tg) B.pre
  have hown : s.vm.findClass y.cls = some m.cls := findClass_of_methodNamed B.named
  have C : Cx p s m (av.map cvv).toArray c meth Y (GA G s.heap.size) y.cls cc ini := ⟨B.exec, B.bytes, hown, fun w hw => hts w (List.mem_cons_of_mem _ hw), hK, fun q h => Or.inr h, fun h => (name_of_methodNamed B.named B.method).1.trans (hi h)⟩
  have h0 := body p e s m (av.map cvv).toArray below meth c C ⟨B.returns, B.notSynchronized, hml⟩ L s.heap []
    ((lg_sl (av.map cvv) ++ List.replicate (maxL - (lg_sl (av.map cvv)).length) Slot.unset).toArray) hL hP ⟨hD.1, fun k q hk => ?_⟩ va_S.rf (lcs_entry hs hl)
  · rw [lg_entry_eq]
    exact h0
  · refine Or.inl ?_
    obtain ⟨a, ha, rfl⟩ := List.mem_map.mp (List.mem_of_getElem? hk)
    exact (hL a).mp ha
section JDK1
variable {l : Launch} {Y : YT}
theorem c_max (d : Nat) (G : GH) (x y : Int32) : Cd l yJ9_max_7cf53 cJ9_max_7cf53 2 (some .int) d 0 0 Y [.inl x, .inl y] G (fun r G' => G' = G ∧ r = some (.inl (if x < y then y else x))) := by
  refine Ct.ofF (ini := False) (by decide +kernel) False.elim rfl (Nat.le_of_ble_eq_true rfl) ?_
  intro p e s m args below meth c C X
  refine b_J9_max_7cf53_0.go C ⟨fun h => ⟨trivial, ?_⟩, fun h => ⟨trivial, ?_⟩⟩
  · refine b_J9_max_7cf53_9.go C ⟨trivial, ?_⟩
    exact V_iret C X d_J9_max_7cf53_10 (Nat.zero_le _) (Nat.zero_le _) ⟨rfl, by rw [if_pos h]⟩
  · refine b_J9_max_7cf53_5.go C ⟨trivial, ?_⟩
    exact V_iret C X d_J9_max_7cf53_10 (Nat.zero_le _) (Nat.zero_le _) ⟨rfl, by rw [if_neg h]⟩
theorem c_min (d : Nat) (G : GH) (x y : Int32) : Cd l yJ9_min_7cf53 cJ9_min_7cf53 2 (some .int) d 0 0 Y [.inl x, .inl y] G (fun r G' => G' = G ∧ r = some (.inl (if y < x then y else x))) := by
  refine Ct.ofF (ini := False) (by decide +kernel) False.elim rfl (Nat.le_of_ble_eq_true rfl) ?_
  intro p e s m args below meth c C X
  refine b_J9_min_7cf53_0.go C ⟨fun h => ⟨trivial, ?_⟩, fun h => ⟨trivial, ?_⟩⟩
  · refine b_J9_min_7cf53_9.go C ⟨trivial, ?_⟩
    exact V_iret C X d_J9_min_7cf53_10 (Nat.zero_le _) (Nat.zero_le _) ⟨rfl, by rw [if_pos h]⟩
  · refine b_J9_min_7cf53_5.go C ⟨trivial, ?_⟩
    exact V_iret C X d_J9_min_7cf53_10 (Nat.zero_le _) (Nat.zero_le _) ⟨rfl, by rw [if_neg h]⟩
def fdiv (x y : Int32) : Int32 := if 0 ≤ x ^^^ y then x / y else if x / y * y = x then x / y else x / y - nI 1
theorem c_floorDiv (d : Nat) (G : GH) (x y : Int32) (hy : ¬ y = 0) : Cd l yJ9_floorDiv_7cf53 cJ9_floorDiv_7cf53 3 (some .int) d 0 0 Y [.inl x, .inl y] G (fun r G' => G' = G ∧ r = some (.inl (fdiv x y))) := by
  refine Ct.ofF (ini := False) (by decide +kernel) False.elim rfl (Nat.le_of_ble_eq_true rfl) ?_
  intro p e s m args below meth c C X
  refine b_J9_floorDiv_7cf53_0.go C ⟨hy, _, rfl, _, rfl, fun h => ⟨trivial, ?_⟩, fun h => ⟨trivial, ?_⟩⟩
  · refine b_J9_floorDiv_7cf53_21.go C ⟨trivial, ?_⟩
    exact V_iret C X d_J9_floorDiv_7cf53_22 (Nat.zero_le _) (Nat.zero_le _) ⟨rfl, by rw [fdiv, if_pos h]⟩
  · refine b_J9_floorDiv_7cf53_10.go C ⟨_, rfl, fun h2 => ⟨trivial, ?_⟩, fun h2 => ⟨trivial, ?_⟩⟩
    · refine b_J9_floorDiv_7cf53_21.go C ⟨trivial, ?_⟩
      exact V_iret C X d_J9_floorDiv_7cf53_22 (Nat.zero_le _) (Nat.zero_le _) ⟨rfl, by rw [fdiv, if_neg h, if_pos h2]⟩
    · refine b_J9_floorDiv_7cf53_17.go C ⟨_, rfl, trivial, ?_⟩
      exact V_iret C X d_J9_floorDiv_7cf53_20 (Nat.zero_le _) (Nat.zero_le _) ⟨rfl, by rw [fdiv, if_neg h, if_neg h2]⟩
/-- an ArrayList at la, of n elements f 0 .. f (n - 1): none yet, or in an array of cap places at ea -/
def alC (mo : Int32) (ea n : Nat) : AC := .inr (0, [.inl mo, .inr (.inr (some ea)), .inl (nI n)])
def alE (Y : YT) (G : GH) (ea cap : Nat) (f : Nat → Option Nat) : Prop := (cap = 0 ∧ ea = Y.2.2 0) ∨ (G ea = some (.inl (6, cap, .inr (.inr (.inr (.inr f))))) ∧ 0 < cap)
theorem c_size (d : Nat) (G : GH) (la ea n : Nat) (mo : Int32) (h : G la = some (alC mo ea n)) : Cd l yJx4a65c_size_8abf5 cJx4a65c_size_8abf5 1 (some .int) d 0 0 Y [.inr (.inr (some la))] G (fun r G' => G' = G ∧ r = some (.inl (nI n))) := by
  refine Ct.of (ini := False) (by decide +kernel) False.elim rfl (Nat.le_of_ble_eq_true rfl) ?_
  intro p e s m args below meth c C X
  refine b_Jx4a65c_size_8abf5_0.go C ⟨_, h, trivial, ?_⟩
  exact V_iret C X d_Jx4a65c_size_8abf5_4 (Nat.zero_le _) (Nat.zero_le _) ⟨rfl, rfl⟩
theorem c_isEmpty (d : Nat) (G : GH) (la ea n : Nat) (mo : Int32) (h : G la = some (alC mo ea n)) (hn : n ≤ 100000) : Cd l yJx4a65c_isEmpty_aae02 cJx4a65c_isEmpty_aae02 1 (some .boolean) d 0 0 Y [.inr (.inr (some la))] G (fun r G' => G' = G ∧ r = some (.inl (bI (n == 0)))) := by
  refine Ct.of (ini := False) (by decide +kernel) False.elim rfl (Nat.le_of_ble_eq_true rfl) ?_
  intro p e s m args below meth c C X
  refine b_Jx4a65c_isEmpty_aae02_0.go C ⟨_, h, fun h1 => ⟨trivial, ?_⟩, fun h1 => ⟨trivial, ?_⟩⟩
  · refine b_Jx4a65c_isEmpty_aae02_11.go C ⟨trivial, ?_⟩
    exact V_zret C X d_Jx4a65c_isEmpty_aae02_12 z0 (Nat.zero_le _) (Nat.zero_le _) ⟨rfl, by rw [show (n == 0) = false from by simpa using fun z => h1 (by rw [z]; exact nI_0)]; rfl⟩
  · refine b_Jx4a65c_isEmpty_aae02_7.go C ⟨trivial, ?_⟩
    exact V_zret C X d_Jx4a65c_isEmpty_aae02_12 z1 (Nat.zero_le _) (Nat.zero_le _) ⟨rfl, by rw [show (n == 0) = true from by simpa using (nI_eq (by omega) (by omega)).mp (h1.trans nI_0.symm)]; rfl⟩
theorem c_checkIndex3 (d : Nat) (G : GH) (i n : Nat) (o : Option Nat) (h : i < n) (hn : n ≤ 100000) : Cd l yJ3_checkIndex_8e157 cJ3_checkIndex_8e157 3 (some .int) d 0 0 Y [.inl (nI i), .inl (nI n), .inr (.inr o)] G (fun r G' => G' = G ∧ r = some (.inl (nI i))) := by
  refine Ct.of (ini := False) (by decide +kernel) False.elim rfl (Nat.le_of_ble_eq_true rfl) ?_
  intro p e s m args below meth c C X
  refine b_J3_checkIndex_8e157_0.go C ⟨fun h1 => absurd h1 (nI_pos (by omega)), fun h1 => ⟨trivial, ?_⟩⟩
  refine b_J3_checkIndex_8e157_4.go C ⟨fun h1 => ⟨trivial, ?_⟩, fun h1 => absurd (nI_lt h (by omega)) h1⟩
  refine b_J3_checkIndex_8e157_16.go C ⟨trivial, ?_⟩
  exact V_iret C X d_J3_checkIndex_8e157_17 (Nat.zero_le _) (Nat.zero_le _) ⟨rfl, rfl⟩
theorem c_checkIndex (d : Nat) (G : GH) (i n : Nat) (h : i < n) (hn : n ≤ 100000) : Cd l yJ15_checkIndex_7cf53 cJ15_checkIndex_7cf53 2 (some .int) (d + 1) 0 0 Y [.inl (nI i), .inl (nI n)] G (fun r G' => G' = G ∧ r = some (.inl (nI i))) := by
  refine Ct.of (ini := False) (by decide +kernel) False.elim rfl (Nat.le_of_ble_eq_true rfl) ?_
  intro p e s m args below meth c C X
  refine b_J15_checkIndex_7cf53_0.go C ⟨trivial, ?_⟩
  refine k_J15_checkIndex_7cf53_3.go C X (c_checkIndex3 d G i n none h hn) (rest := []) rfl rfl rfl (fun h => absurd rfl h) (by decide) (Rq.of (Nat.le_refl _) (by decide) (Nat.le_refl _) (Nat.le_refl _)) ?_
  rintro r G' ⟨rfl, rfl⟩
  exact V_iret C X d_J15_checkIndex_7cf53_6 (Nat.zero_le _) (Nat.zero_le _) ⟨rfl, rfl⟩
theorem c_elementData (d : Nat) (G : GH) (la ea n cap i : Nat) (mo : Int32) (f : Nat → Option Nat) (h : G la = some (alC mo ea n)) (he : G ea = some (.inl (6, cap, .inr (.inr (.inr (.inr f)))))) (hi : i < cap) (hc : cap ≤ 100000) : Cd l yJx4a65c_elementData_915e3 cJx4a65c_elementData_915e3 2 (some (.object "java/lang/Object")) d 0 0 Y [.inr (.inr (some la)), .inl (nI i)] G (fun r G' => G' = G ∧ r = some (.inr (.inr (f i)))) := by
  refine Ct.of (ini := False) (by decide +kernel) False.elim rfl (Nat.le_of_ble_eq_true rfl) ?_
  intro p e s m args below meth c C X
  refine b_Jx4a65c_elementData_915e3_0.go C ⟨_, h, _, _, he, i, rfl, hi, hc, _, rfl, trivial, ?_⟩
  exact V_aret C X (Or.inl ⟨_, rfl⟩) d_Jx4a65c_elementData_915e3_6 (Nat.zero_le _) (Nat.zero_le _) ⟨rfl, rfl⟩
theorem c_get (d : Nat) (G : GH) (la ea n cap i : Nat) (mo : Int32) (f : Nat → Option Nat) (h : G la = some (alC mo ea n)) (he : G ea = some (.inl (6, cap, .inr (.inr (.inr (.inr f)))))) (hi : i < n) (hn : n ≤ cap) (hc : cap ≤ 100000) : Cd l yJx4a65c_get_915e3 cJx4a65c_get_915e3 2 (some (.object "java/lang/Object")) (d + 2) 0 0 Y [.inr (.inr (some la)), .inl (nI i)] G (fun r G' => G' = G ∧ r = some (.inr (.inr (f i)))) := by
  refine Ct.of (ini := False) (by decide +kernel) False.elim rfl (Nat.le_of_ble_eq_true rfl) ?_
  intro p e s m args below meth c C X
  refine b_Jx4a65c_get_915e3_0.go C ⟨_, h, trivial, ?_⟩
  refine k_Jx4a65c_get_915e3_5.go C X (c_checkIndex d G i n hi (by omega)) (rest := []) rfl rfl rfl (fun h => absurd rfl h) (by decide) (Rq.of (Nat.le_refl _) (by decide) (Nat.le_refl _) (Nat.le_refl _)) ?_
  rintro r G' ⟨rfl, rfl⟩
  refine b_Jx4a65c_get_915e3_8.go C ⟨trivial, ?_⟩
  refine k_Jx4a65c_get_915e3_11.go C X (c_elementData 0 G' la ea n cap i mo f h he (by omega) hc) (rest := []) rfl rfl rfl (fun _ => ⟨la, 0, _, rfl, h, by decide⟩) (by decide) (Rq.of (by omega) (by decide) (Nat.le_refl _) (Nat.le_refl _)) ?_
  rintro r G'' ⟨rfl, rfl⟩
  exact V_aret C X (Or.inl ⟨_, rfl⟩) d_Jx4a65c_get_915e3_14 (Nat.zero_le _) (Nat.zero_le _) ⟨rfl, rfl⟩
end JDK1
