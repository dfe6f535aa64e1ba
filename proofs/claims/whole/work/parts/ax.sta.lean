/-! the law's start -/
section STAS
set_option maxRecDepth 100000 in
theorem sw_in : ∀ w ∈ [Cond.instantiable RJx4a65c 3, Cond.instantiable RX0 1, Cond.instantiable RX1 4, Cond.instantiable RX2 9, Cond.instantiable RX3 2, Cond.instantiable RX4 4, Cond.instantiable RX6 13, Cond.instantiable RX7 26, Cond.instantiable RX8 12, Cond.instantiable RX9 66, Cond.arrayClass .int, Cond.arrayClass .long, Cond.arrayClass .boolean, Cond.arrayOver (.object "PromiseKitchen$Cook"), Cond.arrayOver (.object "PromiseKitchen$Failure"), Cond.arrayOver (.object "PromiseKitchen$Stage"), Cond.arrayOver (.object "java/lang/Object"), Cond.laysStatic "java/util/ArrayList" "DEFAULTCAPACITY_EMPTY_ELEMENTDATA" "[Ljava/lang/Object;", Cond.initialized "java/util/ArrayList", Cond.laysStatic Jvm.Bundle.tN "UNASSIGNED_STACK" Jvm.Bundle.steD, Cond.laysStatic Jvm.Bundle.tN "SUPPRESSED_SENTINEL" Jvm.Bundle.listD, Cond.initialized Jvm.Bundle.tN, Cond.stringRef RX8 195 "there is no such stage", Cond.stringRef RX8 202 "the stage has no value", Cond.stringRef RX8 214 "there is no such stage or what", Cond.stringRef RX8 220 "the stage did not fail", Cond.stringRef RX8 228 "there is no failure at this place", Cond.declares ⟨"java/lang/Object", "getClass", "()Ljava/lang/Class;"⟩], w ∈ lw_tbl := by decide +kernel
set_option maxRecDepth 100000 in
theorem sw_fl : ∀ w ∈ [Cond.arrayOf (Term.static "java/util/ArrayList" "DEFAULTCAPACITY_EMPTY_ELEMENTDATA" "[Ljava/lang/Object;") (.object "java/lang/Object"), Cond.eq (.length (Term.static "java/util/ArrayList" "DEFAULTCAPACITY_EMPTY_ELEMENTDATA" "[Ljava/lang/Object;")) (.int 0), Cond.isRef (.static Jvm.Bundle.tN "UNASSIGNED_STACK" Jvm.Bundle.steD), Cond.isRef (.static Jvm.Bundle.tN "SUPPRESSED_SENTINEL" Jvm.Bundle.listD), Cond.isRef (.mirror "[Ljava/lang/Object;"), Cond.not (.castable "PromiseKitchen$Stage" "PromiseKitchen$Work"), Cond.not (.castable sIS sIA), Cond.not (.castable sIB sIA), Cond.not (.castable sIB sIS), Cond.exactly (.string RX8 195) "java/lang/String", Cond.exactly (.string RX8 202) "java/lang/String", Cond.exactly (.string RX8 214) "java/lang/String", Cond.exactly (.string RX8 220) "java/lang/String", Cond.exactly (.string RX8 228) "java/lang/String"], w ∈ flatC (Jvm.Cond.and given_1 narrow_1) := by decide +kernel
set_option maxRecDepth 100000 in
theorem sw_tC : ∀ q ∈ tnC, Cond.castable q.1 q.2 ∈ lw_tbl := by decide +kernel
set_option maxRecDepth 100000 in
theorem sw_tM : ∀ q ∈ tnM, Cond.methodLinkNest q.1 q.2.1 q.2.2.1 q.2.2.2 ∈ lw_tbl := by decide +kernel
set_option maxRecDepth 100000 in
theorem sw_tO : ∀ C ∈ tnO, Cond.arrayOver (.object C) ∈ lw_tbl := by decide +kernel
set_option maxRecDepth 100000 in
theorem sw_D : ∀ C ∈ sDn, Cond.declares (Jvm.Bundle.initS C) ∈ lw_tbl := by decide +kernel
theorem ar_o {s : State} {args : Array Value} {C : String} (h : (Cond.arrayOver (.object C)).before args s = true) : ∃ cA, ArrOfT s cA (.object C) ∧ va_RA s cA (.object C) := by
  obtain ⟨comp, cA, k, h1, -, h3, h4, h5⟩ := Cond.arrayOver_spec h
  exact ⟨cA, fun n z => ⟨fun k h => (by cases h), k, h3, comp, h4⟩, k, comp, h3, h4, h1, h5⟩
theorem ar_i {s : State} {args : Array Value} (h : (Cond.arrayClass .int).before args s = true) : ∃ cA, ArrOfT s cA .int ∧ va_RA s cA .int := by
  obtain ⟨cA, k, comp, h1, h2, h3⟩ := Cond.arrayClass_spec h
  exact ⟨cA, fun n z => ⟨fun k h => (by cases h), k, h2, comp, h3⟩, h1⟩
theorem ar_l {s : State} {args : Array Value} (h : (Cond.arrayClass .long).before args s = true) : ∃ cA, ArrOfT s cA .long ∧ va_RA s cA .long := by
  obtain ⟨cA, k, comp, h1, h2, h3⟩ := Cond.arrayClass_spec h
  exact ⟨cA, fun n z => ⟨fun k h => (by cases h), k, h2, comp, h3⟩, h1⟩
theorem ar_z {s : State} {args : Array Value} (h : (Cond.arrayClass .boolean).before args s = true) : ∃ cA, ArrOfT s cA .boolean ∧ va_RA s cA .boolean := by
  obtain ⟨cA, k, comp, h1, h2, h3⟩ := Cond.arrayClass_spec h
  exact ⟨cA, fun n z => ⟨fun k h => (by cases h), k, h2, comp, h3⟩, h1⟩
theorem sr_of {s : State} {args : Array Value} {k : Nat} {tx : String} (h1 : (Cond.stringRef RX8 k tx).before args s = true) (h2 : (Cond.exactly (.string RX8 k) "java/lang/String").before args s = true) : ∃ a, vk_R RX8 k tx a s := by
  obtain ⟨a, c, cell, k9, ha, -⟩ := Cond.exactly_spec h2
  exact ⟨a, vk_R.of (A := args) h1 ha⟩
set_option maxHeartbeats 2000000 in
theorem st_world {s : State} {args : Array Value} (hts : ∀ w ∈ lw_tbl, w.before args s = true) (hfl : ∀ c ∈ flatC (Jvm.Cond.and given_1 narrow_1), c.before args s = true) : ∃ Y : YT, KE Y (fun q => s.heap.size ≤ q) s s.heap ∧ EW (fun q => s.heap.size ≤ q) s s.heap := by
  have hA : ∀ a : Nat, a < s.heap.size → ¬ (fun q : Nat => s.heap.size ≤ q) a := fun a h h2 => by have h3 : s.heap.size ≤ a := h2; omega
  have hk : ∀ ci : Nat, ∃ y : ClassId × (Nat → Nat), ∀ q, vwCl[ci]? = some q → u_Kn s q.1 q.2.1 q.2.2 y.1 y.2 := by
    intro ci
    match ci with
    | 0 =>
      obtain ⟨c, i, h⟩ := u_known (tg_all hts) tgTJx4a65c (hts _ (sw_in (Cond.instantiable RJx4a65c 3) (by simp)))
      exact ⟨(c, i), fun q hq => by cases hq; exact h⟩
    | 1 =>
      obtain ⟨c, i, h⟩ := u_known (tg_all hts) tgTX0 (hts _ (sw_in (Cond.instantiable RX0 1) (by simp)))
      exact ⟨(c, i), fun q hq => by cases hq; exact h⟩
    | 2 =>
      obtain ⟨c, i, h⟩ := u_known (tg_all hts) tgTX1 (hts _ (sw_in (Cond.instantiable RX1 4) (by simp)))
      exact ⟨(c, i), fun q hq => by cases hq; exact h⟩
    | 3 =>
      obtain ⟨c, i, h⟩ := u_known (tg_all hts) tgTX2 (hts _ (sw_in (Cond.instantiable RX2 9) (by simp)))
      exact ⟨(c, i), fun q hq => by cases hq; exact h⟩
    | 4 =>
      obtain ⟨c, i, h⟩ := u_known (tg_all hts) tgTX3 (hts _ (sw_in (Cond.instantiable RX3 2) (by simp)))
      exact ⟨(c, i), fun q hq => by cases hq; exact h⟩
    | 5 =>
      obtain ⟨c, i, h⟩ := u_known (tg_all hts) tgTX4 (hts _ (sw_in (Cond.instantiable RX4 4) (by simp)))
      exact ⟨(c, i), fun q hq => by cases hq; exact h⟩
    | 6 =>
      obtain ⟨c, i, h⟩ := u_known (tg_all hts) tgTX6 (hts _ (sw_in (Cond.instantiable RX6 13) (by simp)))
      exact ⟨(c, i), fun q hq => by cases hq; exact h⟩
    | 7 =>
      obtain ⟨c, i, h⟩ := u_known (tg_all hts) tgTX7 (hts _ (sw_in (Cond.instantiable RX7 26) (by simp)))
      exact ⟨(c, i), fun q hq => by cases hq; exact h⟩
    | 8 =>
      obtain ⟨c, i, h⟩ := u_known (tg_all hts) tgTX8 (hts _ (sw_in (Cond.instantiable RX8 12) (by simp)))
      exact ⟨(c, i), fun q hq => by cases hq; exact h⟩
    | 9 =>
      obtain ⟨c, i, h⟩ := u_known (tg_all hts) tgTX9 (hts _ (sw_in (Cond.instantiable RX9 66) (by simp)))
      exact ⟨(c, i), fun q hq => by cases hq; exact h⟩
    | n + 10 => exact ⟨(0, fun _ => 0), fun q hq => absurd (List.getElem?_eq_some_iff.mp hq).1 (by simp)⟩
  obtain ⟨y, hy⟩ := Classical.axiomOfChoice hk
  obtain ⟨c0, p0⟩ := ar_i (hts _ (sw_in (Cond.arrayClass .int) (by simp)))
  obtain ⟨c1, p1⟩ := ar_l (hts _ (sw_in (Cond.arrayClass .long) (by simp)))
  obtain ⟨c2, p2⟩ := ar_z (hts _ (sw_in (Cond.arrayClass .boolean) (by simp)))
  obtain ⟨c3, p3⟩ := ar_o (hts _ (sw_in (Cond.arrayOver (.object "PromiseKitchen$Cook")) (by simp)))
  obtain ⟨c4, p4⟩ := ar_o (hts _ (sw_in (Cond.arrayOver (.object "PromiseKitchen$Failure")) (by simp)))
  obtain ⟨c5, p5⟩ := ar_o (hts _ (sw_in (Cond.arrayOver (.object "PromiseKitchen$Stage")) (by simp)))
  obtain ⟨c6, p6⟩ := ar_o (hts _ (sw_in (Cond.arrayOver (.object "java/lang/Object")) (by simp)))
  obtain ⟨ea, hea, hT⟩ := va_Tof (N := 0) (f := fun _ => .null) (A := fun q => s.heap.size ≤ q) (by decide) (hfl _ (sw_fl (Cond.arrayOf (Term.static "java/util/ArrayList" "DEFAULTCAPACITY_EMPTY_ELEMENTDATA" "[Ljava/lang/Object;") (.object "java/lang/Object")) (by simp))) (va_eqt (hfl _ (sw_fl (Cond.eq (.length (Term.static "java/util/ArrayList" "DEFAULTCAPACITY_EMPTY_ELEMENTDATA" "[Ljava/lang/Object;")) (.int 0)) (by simp)))) (fun j h => absurd h (by omega)) hA
  obtain ⟨mi, hmi⟩ := va_Mi.of (hfl _ (sw_fl (Cond.isRef (.mirror "[Ljava/lang/Object;")) (by simp)))
  refine ⟨((fun c => (y c).1, fun c => (y c).2), fun k => match k with | 0 => c0 | 1 => c1 | 2 => c2 | 3 => c3 | 4 => c4 | 5 => c5 | _ => c6, fun k => match k with | 0 => ea | _ => mi), ⟨⟨fun c q h => hy c q h, fun k q h => ?_⟩, va_Nc.of (hfl _ (sw_fl (Cond.not (.castable "PromiseKitchen$Stage" "PromiseKitchen$Work")) (by simp))), va_Zof (hts _ (sw_in (Cond.laysStatic "java/util/ArrayList" "DEFAULTCAPACITY_EMPTY_ELEMENTDATA" "[Ljava/lang/Object;") (by simp))) (hts _ (sw_in (Cond.initialized "java/util/ArrayList") (by simp))) hea hA, hT, hmi, fun q hq => va_Nw.of rfl (hts _ (sw_tC q hq)), fun q hq => va_Nw.of rfl (hts _ (sw_tM q hq)), fun C hC => va_AO.of (hts _ (sw_tO C hC)), va_Dc.of (hts _ (sw_in (Cond.declares ⟨"java/lang/Object", "getClass", "()Ljava/lang/Class;"⟩) (by simp)))⟩,
    ⟨sr_of (hts _ (sw_in (Cond.stringRef RX8 195 "there is no such stage") (by simp))) (hfl _ (sw_fl (Cond.exactly (.string RX8 195) "java/lang/String") (by simp))), sr_of (hts _ (sw_in (Cond.stringRef RX8 202 "the stage has no value") (by simp))) (hfl _ (sw_fl (Cond.exactly (.string RX8 202) "java/lang/String") (by simp))), sr_of (hts _ (sw_in (Cond.stringRef RX8 214 "there is no such stage or what") (by simp))) (hfl _ (sw_fl (Cond.exactly (.string RX8 214) "java/lang/String") (by simp))), sr_of (hts _ (sw_in (Cond.stringRef RX8 220 "the stage did not fail") (by simp))) (hfl _ (sw_fl (Cond.exactly (.string RX8 220) "java/lang/String") (by simp))), sr_of (hts _ (sw_in (Cond.stringRef RX8 228 "there is no failure at this place") (by simp))) (hfl _ (sw_fl (Cond.exactly (.string RX8 228) "java/lang/String") (by simp)))⟩, ⟨vx_Zqof (hts _ (sw_in (Cond.laysStatic Jvm.Bundle.tN "UNASSIGNED_STACK" Jvm.Bundle.steD) (by simp))) (hts _ (sw_in (Cond.initialized Jvm.Bundle.tN) (by simp))) (hfl _ (sw_fl (Cond.isRef (.static Jvm.Bundle.tN "UNASSIGNED_STACK" Jvm.Bundle.steD)) (by simp))) hA, vx_Zqof (hts _ (sw_in (Cond.laysStatic Jvm.Bundle.tN "SUPPRESSED_SENTINEL" Jvm.Bundle.listD) (by simp))) (hts _ (sw_in (Cond.initialized Jvm.Bundle.tN) (by simp))) (hfl _ (sw_fl (Cond.isRef (.static Jvm.Bundle.tN "SUPPRESSED_SENTINEL" Jvm.Bundle.listD)) (by simp))) hA⟩, va_Nc.of (hfl _ (sw_fl (Cond.not (.castable sIS sIA)) (by simp))), va_Nc.of (hfl _ (sw_fl (Cond.not (.castable sIB sIA)) (by simp))), va_Nc.of (hfl _ (sw_fl (Cond.not (.castable sIB sIS)) (by simp))), fun C hC => va_Nw.of rfl (hts _ (sw_D C hC))⟩
  match k, h with
  | 0, h => cases h; exact p0
  | 1, h => cases h; exact p1
  | 2, h => cases h; exact p2
  | 3, h => cases h; exact p3
  | 4, h => cases h; exact p4
  | 5, h => cases h; exact p5
  | 6, h => cases h; exact p6
  | k + 7, h => exact absurd (List.getElem?_eq_some_iff.mp h).1 (by simp [tysY])
end STAS
