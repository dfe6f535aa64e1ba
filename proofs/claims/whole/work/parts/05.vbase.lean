/-! THE PURE HEAP. G maps an address to a cell: an array of kind t (0 int, 1 long, 2 boolean, 3 Cook, 4 Failure, 5 Stage, 6 Object) or an object of class ci of vwCl with its fields. AV: a value: an int, a long, a reference or null. V: the machine at a frame whose heap holds G comes to Q. -/
/-- the tables' words that hold at every later state too -/
def tg : List Cond := lw_tbl.filter goodWord
theorem tg_in {w : Cond} (h : w ∈ lw_tbl) (hg : goodWord w = true) : w ∈ tg := List.mem_filter.mpr ⟨h, hg⟩
theorem tg_all {args : Array Value} {s : State} (h : ∀ w ∈ lw_tbl, w.before args s = true) : ∀ w ∈ tg, w.before args s = true := fun w hw => h w (List.mem_filter.mp hw).1
theorem tg_good {ts : List Cond} (h : ∀ w ∈ ts, w ∈ tg) : GoodIn tg ts := fun w hw => ⟨h w hw, good_of_word (List.mem_filter.mp (h w hw)).2⟩
abbrev AV : Type := Int32 ⊕ (Int64 ⊕ Option Nat)
abbrev AC : Type := (Nat × vp_A) ⊕ (Nat × List AV)
abbrev GH : Type := Nat → Option AC
abbrev YT : Type := va_G × (Nat → ClassId) × (Nat → Nat)
def cvv (v : AV) : Value := match v with
  | .inl x => .int x
  | .inr (.inl x) => .long x
  | .inr (.inr o) => va_rf o
def cv (Y : YT) (e : AC) : va_E := match e with
  | .inl x => .inl (Y.2.1 x.1, x.2)
  | .inr o => .inr (o.1, o.2.map cvv)
def cf (Y : YT) (G : GH) (a : Nat) : va_E := cv Y ((G a).getD (.inr (0, [])))
def tysY (Y : YT) : List (ClassId × FieldType) := [(Y.2.1 0, .int), (Y.2.1 1, .long), (Y.2.1 2, .boolean), (Y.2.1 3, .object "PromiseKitchen$Cook"), (Y.2.1 4, .object "PromiseKitchen$Failure"), (Y.2.1 5, .object "PromiseKitchen$Stage"), (Y.2.1 6, .object "java/lang/Object")]
def GL (G : GH) (L : List Nat) : Prop := ∀ a, a ∈ L ↔ G a ≠ none
def lcs (ls : Array Slot) (lc : List (Option AV)) : Prop := ls.size = lc.length ∧ lv_wf ls ∧ ∀ (i : Nat) (v : AV), lc[i]? = some (some v) → ls[i]? = some (.val (cvv v)) ∧ (cvv v).category = 1
def V (p : Program) (l : Launch) (e : Env) (R : Room) (s : State) (m : MethodId) (args : Array Value) (below : List Frame) (meth : Method) (c : Code) (Y : YT) (A : Nat → Prop) (Q : State → Prop) (pc : Nat) (G : GH) (cells slots : Nat) (lc : List (Option AV)) (st : List AV) : Prop :=
  ∀ (L : List Nat) (H : Heap) (locs : List Loc) (ls : Array Slot), GL G L → va_P Y.1 vwCl (va_pl L (cf Y G)) H → va_D A (va_pl L (cf Y G)) → va_S A s.heap H locs → lcs ls lc → W p l e R s m args below meth c H locs cells slots Q (F0 m pc ls (st.map cvv))
/-- the tables' words of other kinds: which class may be cast to which, links within the nest, arrays of classes -/
def tnC : List (String × String) := [("[I", "java/lang/Cloneable"), ("java/lang/IllegalArgumentException", "java/lang/IllegalArgumentException"), ("java/lang/IllegalStateException", "java/lang/IllegalStateException"), ("java/lang/IndexOutOfBoundsException", "java/lang/IndexOutOfBoundsException"), ("PromiseKitchen$Work", "PromiseKitchen$Work"), ("PromiseKitchen$Stage", "PromiseKitchen$Stage"), ("PromiseKitchen$Work", "PromiseKitchen$Stage"), ("PromiseKitchen", "java/lang/Object"), ("PromiseKitchen$Plan", "java/lang/Object"), ("PromiseKitchen$Agenda", "java/lang/Object"), ("PromiseKitchen$Journal", "java/lang/Object"), ("PromiseKitchen$Cook", "java/lang/Object"), ("PromiseKitchenModel", "java/lang/Object"), ("PromiseKitchen$Work", "java/lang/Object"), ("PromiseKitchen$Stage", "java/lang/Object"), ("PromiseKitchen$Failure", "java/lang/Object"), ("java/lang/String", "java/lang/Object")]
def tnM : List (String × Nat × MethodName × String) := [("PromiseKitchen", 33, yX4_init, "PromiseKitchen"), ("PromiseKitchen", 40, yX0_init, "PromiseKitchen"), ("PromiseKitchen", 47, yX3_init, "PromiseKitchen"), ("PromiseKitchen$Agenda", 15, yX8_isWithin, "PromiseKitchen")]
def tnO : List String := ["PromiseKitchen$Stage", "PromiseKitchen$Cook", "PromiseKitchen$Failure", "java/lang/Object"]
def KN (U : State) : Prop := (∀ q ∈ tnC, va_Nw (.castable q.1 q.2) U) ∧ (∀ q ∈ tnM, va_Nw (.methodLinkNest q.1 q.2.1 q.2.2.1 q.2.2.2) U) ∧ (∀ C ∈ tnO, va_AO C U) ∧ va_Dc U
theorem KN.warm {s U : State} (hW : s.WarmedH U.vm) (h : KN s) : KN U := ⟨fun q hq => va_Nw.warmC hW (h.1 q hq), fun q hq => va_Nw.warmM hW (h.2.1 q hq), fun C hC => va_AO.moved hW.alike (h.2.2.1 C hC), va_Dc.moved hW.alike h.2.2.2⟩
theorem KN.same {u U : State} (hv : u.vm = U.vm) (h : KN u) : KN U := ⟨fun q hq => va_Nw.same rfl hv (h.1 q hq), fun q hq => va_Nw.same rfl hv (h.2.1 q hq), fun C hC => va_AO.moved (hv ▸ Vm.Alike.refl u.vm) (h.2.2.1 C hC), va_Dc.moved (hv ▸ Vm.Alike.refl u.vm) h.2.2.2⟩
/-- what the tables and the JDK's statics say: the classes' numbers, that a Stage is no Work, ArrayList's empty array (at Y.2.2 0), Object[]'s class object (at Y.2.2 1), the other words -/
def KE (Y : YT) (A : Nat → Prop) (U : State) (H : Heap) : Prop := va_K Y.1 vwCl (tysY Y) U ∧ va_Nc "PromiseKitchen$Stage" "PromiseKitchen$Work" U ∧ va_Z "java/util/ArrayList" "DEFAULTCAPACITY_EMPTY_ELEMENTDATA" "[Ljava/lang/Object;" (.ref (Y.2.2 0)) A U H ∧ va_T (.object "java/lang/Object") (Y.2.2 0) 0 (fun _ => .null) A U H ∧ va_Mi "[Ljava/lang/Object;" (Y.2.2 1) U ∧ KN U
theorem KE.warm {Y : YT} {A : Nat → Prop} {u U : State} {H : Heap} (hW : u.WarmedH U.vm) (h : KE Y A u H) : KE Y A U H := ⟨va_K.moved hW.alike h.1, va_Nc.moved hW.alike h.2.1, va_Z.moved hW.alike h.2.2.1, va_T.moved hW.alike h.2.2.2.1, va_Mi.moved hW.alike h.2.2.2.2.1, h.2.2.2.2.2.warm hW⟩
theorem KE.same {Y : YT} {A : Nat → Prop} {u U : State} {H : Heap} (hv : u.vm = U.vm) (h : KE Y A u H) : KE Y A U H :=
  have hA : u.vm.Alike U.vm := hv ▸ Vm.Alike.refl u.vm
  ⟨va_K.moved hA h.1, va_Nc.moved hA h.2.1, va_Z.moved hA h.2.2.1, va_T.moved hA h.2.2.2.1, va_Mi.moved hA h.2.2.2.2.1, h.2.2.2.2.2.same hv⟩
theorem KE.kept {Y : YT} {A : Nat → Prop} {U : State} {H H1 : Heap} (h : KE Y A U H) (hq : ∀ a : Nat, a < H.size → ¬ A a → H1[a]? = H[a]?) : KE Y A U H1 := ⟨h.1, h.2.1, va_Z.kept h.2.2.1 hq, va_T.kept h.2.2.2.1 hq, h.2.2.2.2⟩
theorem KE.narrow {Y : YT} {A B : Nat → Prop} {U : State} {H : Heap} (h : KE Y A U H) (hAB : ∀ q, B q → A q) : KE Y B U H := ⟨h.1, h.2.1, va_Z.narrow h.2.2.1 hAB, va_T.narrow h.2.2.2.1 hAB, h.2.2.2.2⟩
/-- what a method's frame stands on: the machine, its code, its class, the tables' words, the classes' numbers, what may be written -/
def Cx (p : Program) (s : State) (m : MethodId) (args : Array Value) (c : Code) (meth : Method) (Y : YT) (A : Nat → Prop) (own : String) (cc : ByteArray) (ini : Prop) : Prop :=
  p.tables.exec = Jvm.exec ∧ c.code = cc ∧ s.vm.findClass own = some m.cls ∧ (∀ w ∈ tg, w.before args s = true) ∧ KE Y A s s.heap ∧ (∀ q, s.heap.size ≤ q → A q) ∧ (ini → meth.name = "<init>")
abbrev KT : Type := GH → Nat → Nat → List (Option AV) → List AV → Prop
abbrev WT : Type := Room → YT → KT → KT
abbrev KJ : Type := Nat → GH → Nat → Nat → List (Option AV) → List AV → Prop
abbrev WJ : Type := Room → YT → KJ → KT
/-- w leads from pc to pc': where w holds with K behind it, and K leads on from pc', V holds at pc -/
def SS (own : String) (cc : ByteArray) (ini : Prop) (pc pc' : Nat) (w : WT) : Prop :=
  ∀ (p : Program) (l : Launch) (e : Env) (R : Room) (s : State) (m : MethodId) (args : Array Value) (below : List Frame) (meth : Method) (c : Code) (Y : YT) (A : Nat → Prop) (Q : State → Prop) (K : KT), Cx p s m args c meth Y A own cc ini →
    (∀ G n k lc st, K G n k lc st → V p l e R s m args below meth c Y A Q pc' G n k lc st) → ∀ G n k lc st, w R Y K G n k lc st → V p l e R s m args below meth c Y A Q pc G n k lc st
def SJ (own : String) (cc : ByteArray) (ini : Prop) (pc : Nat) (w : WJ) : Prop :=
  ∀ (p : Program) (l : Launch) (e : Env) (R : Room) (s : State) (m : MethodId) (args : Array Value) (below : List Frame) (meth : Method) (c : Code) (Y : YT) (A : Nat → Prop) (Q : State → Prop), Cx p s m args c meth Y A own cc ini →
    ∀ G n k lc st, w R Y (fun pc' G n k lc st => True ∧ V p l e R s m args below meth c Y A Q pc' G n k lc st) G n k lc st → V p l e R s m args below meth c Y A Q pc G n k lc st
theorem SS.cons {own : String} {cc : ByteArray} {ini : Prop} {pc p1 p2 : Nat} {w w' : WT} (h : SS own cc ini pc p1 w) (h' : SS own cc ini p1 p2 w') : SS own cc ini pc p2 (fun R Y K => w R Y (w' R Y K)) :=
  fun p l e R s m args below meth c Y A Q K C hK G n k lc st hw => h p l e R s m args below meth c Y A Q _ C (fun G n k lc st hh => h' p l e R s m args below meth c Y A Q K C hK G n k lc st hh) G n k lc st hw
theorem SS.to {own : String} {cc : ByteArray} {ini : Prop} {pc p1 : Nat} {w : WT} {w' : WJ} (h : SS own cc ini pc p1 w) (h' : SJ own cc ini p1 w') : SJ own cc ini pc (fun R Y K => w R Y (w' R Y K)) :=
  fun p l e R s m args below meth c Y A Q C G n k lc st hw => h p l e R s m args below meth c Y A Q _ C (fun G n k lc st hh => h' p l e R s m args below meth c Y A Q C G n k lc st hh) G n k lc st hw
theorem SJ.go {own : String} {cc : ByteArray} {ini : Prop} {pc : Nat} {w : WJ} (h : SJ own cc ini pc w) {p : Program} {l : Launch} {e : Env} {R : Room} {s : State} {m : MethodId} {args : Array Value} {below : List Frame} {meth : Method} {c : Code} {Y : YT} {A : Nat → Prop} {Q : State → Prop} (C : Cx p s m args c meth Y A own cc ini) {G : GH} {n k : Nat} {lc : List (Option AV)} {st : List AV}
    (hw : w R Y (fun pc' G n k lc st => True ∧ V p l e R s m args below meth c Y A Q pc' G n k lc st) G n k lc st) : V p l e R s m args below meth c Y A Q pc G n k lc st := h p l e R s m args below meth c Y A Q C G n k lc st hw
def t_at (pc : Nat) : WJ := fun _ _ K => K pc
theorem SJ_at {own : String} {cc : ByteArray} {ini : Prop} (pc : Nat) : SJ own cc ini pc (t_at pc) := fun _ _ _ _ _ _ _ _ _ _ _ _ _ _ _ _ _ _ _ hw => hw.2
/-! locals and fields, by counting down: a literal list is read and written by computing -/
def getL {α : Type} (l : List (Option α)) (i : Nat) (K : α → Prop) : Prop := match l, i with
  | some v :: _, 0 => K v
  | _ :: t, i + 1 => getL t i K
  | _, _ => False
def setL {α : Type} (l : List (Option α)) (i : Nat) (v : α) (K : List (Option α) → Prop) : Prop := match l, i with
  | _ :: t, 0 => K (some v :: t)
  | x :: t, i + 1 => setL t i v (fun t' => K (x :: t'))
  | [], _ => False
def getF {α : Type} (l : List α) (i : Nat) (K : α → Prop) : Prop := match l, i with
  | v :: _, 0 => K v
  | _ :: t, i + 1 => getF t i K
  | [], _ => False
def setF {α : Type} (l : List α) (i : Nat) (v : α) (K : List α → Prop) : Prop := match l, i with
  | _ :: t, 0 => K (v :: t)
  | x :: t, i + 1 => setF t i v (fun t' => K (x :: t'))
  | [], _ => False
theorem getL_spec {α : Type} {K : α → Prop} : ∀ {l : List (Option α)} {i : Nat}, getL l i K → ∃ v, l[i]? = some (some v) ∧ K v
  | some v :: _, 0, h => ⟨v, rfl, h⟩
  | none :: _, 0, h => False.elim h
  | [], _, h => by cases ‹Nat› <;> exact False.elim h
  | some _ :: t, i + 1, h => by obtain ⟨v, h1, h2⟩ := getL_spec (l := t) (i := i) h; exact ⟨v, by simpa using h1, h2⟩
  | none :: t, i + 1, h => by obtain ⟨v, h1, h2⟩ := getL_spec (l := t) (i := i) h; exact ⟨v, by simpa using h1, h2⟩
theorem setL_spec {α : Type} {v : α} : ∀ {l : List (Option α)} {i : Nat} {K : List (Option α) → Prop}, setL l i v K → i < l.length ∧ K (l.set i (some v))
  | _ :: _, 0, _, h => ⟨Nat.zero_lt_succ _, h⟩
  | [], i, _, h => by cases i <;> exact False.elim h
  | x :: t, i + 1, K, h => by
    obtain ⟨h1, h2⟩ := setL_spec (l := t) (i := i) (K := fun t' => K (x :: t')) h
    exact ⟨Nat.succ_lt_succ h1, h2⟩
theorem getF_spec {α : Type} {K : α → Prop} : ∀ {l : List α} {i : Nat}, getF l i K → ∃ v, l[i]? = some v ∧ K v
  | v :: _, 0, h => ⟨v, rfl, h⟩
  | [], i, h => by cases i <;> exact False.elim h
  | _ :: t, i + 1, h => by obtain ⟨v, h1, h2⟩ := getF_spec (l := t) (i := i) h; exact ⟨v, by simpa using h1, h2⟩
theorem setF_spec {α : Type} {v : α} : ∀ {l : List α} {i : Nat} {K : List α → Prop}, setF l i v K → i < l.length ∧ K (l.set i v)
  | _ :: _, 0, _, h => ⟨Nat.zero_lt_succ _, h⟩
  | [], i, _, h => by cases i <;> exact False.elim h
  | x :: t, i + 1, K, h => by
    obtain ⟨h1, h2⟩ := setF_spec (l := t) (i := i) (K := fun t' => K (x :: t')) h
    exact ⟨Nat.succ_lt_succ h1, h2⟩
theorem cvv_rf (o : Option Nat) : cvv (.inr (.inr o)) = va_rf o := rfl
theorem va_rf_cat (o : Option Nat) : (va_rf o).category = 1 := by cases o <;> rfl
theorem lcs_has {ls : Array Slot} {lc : List (Option AV)} (h : lcs ls lc) : lv_has ls lc.length ((List.range lc.length).filterMap (fun i => (lc[i]?).bind (fun o => o.map (fun v => (i, cvv v))))) := by
  refine ⟨h.1, h.2.1, fun q hq => ?_⟩
  obtain ⟨i, -, hi⟩ := List.mem_filterMap.mp hq
  cases hl : lc[i]? with
  | none => rw [hl] at hi; cases hi
  | some o =>
    rw [hl] at hi
    cases o with
    | none => cases hi
    | some v =>
      cases hi
      exact (h.2.2 i v hl).1
theorem lcs_set {ls ls' : Array Slot} {lc : List (Option AV)} {i : Nat} {v : AV} (h : lcs ls lc) (hi : i < lc.length) (hc : (cvv v).category = 1)
    (h' : lv_has ls' lc.length ((i, cvv v) :: ((List.range lc.length).filterMap (fun i => (lc[i]?).bind (fun o => o.map (fun v => (i, cvv v))))).filter (fun q => !(q.1 == i) && !(q.1 + 1 == i && q.2.category == 2)))) : lcs ls' (lc.set i (some v)) := by
  refine ⟨by rw [List.length_set]; exact h'.1, h'.2.1, fun j w hj => ?_⟩
  by_cases hji : i = j
  · subst hji
    rw [List.getElem?_set_self hi] at hj
    cases hj
    exact ⟨h'.2.2 (i, cvv v) List.mem_cons_self, hc⟩
  · rw [List.getElem?_set_ne hji] at hj
    have hw := (h.2.2 j w hj).2
    refine ⟨h'.2.2 (j, cvv w) (List.mem_cons_of_mem _ (List.mem_filter.mpr ⟨List.mem_filterMap.mpr ⟨j, List.mem_range.mpr ?_, by rw [hj]; rfl⟩, ?_⟩)), hw⟩
    · exact (List.getElem?_eq_some_iff.mp hj).1
    · simp [hw, Ne.symm hji]
