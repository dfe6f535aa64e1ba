/-! jumps, and the heap's own instructions -/
section VHEAP
variable {own : String} {cc : ByteArray} {ini : Prop} {pc : Nat}
def t_goto (tgt : Nat) : WJ := fun _ _ K => K tgt
theorem SJ_goto {off : Int} (tgt : Nat) (hd : decode cc pc = .ok (.goto off, 3)) (ht : (pc : Int) + off = (tgt : Int)) : SJ own cc ini pc (t_goto tgt) :=
  fun _ _ _ _ _ _ _ _ _ _ _ _ _ C _ _ _ _ _ h L H locs ls h1 h2 h3 h4 h5 => lv_goto C.1 C.2.1 hd ht (h.2 L H locs ls h1 h2 h3 h4 h5)
def t_if_eq (tgt nx : Nat) : WJ := fun _ _ K G n k lc st => match st with | .inl x :: r => (x = 0 → K tgt G n k lc r) ∧ (¬ x = 0 → K nx G n k lc r) | _ => False
theorem SJ_if_eq {off : Int} (tgt nx : Nat) (hd : decode cc pc = .ok (.ifCond .eq off, 3)) (ht : (pc : Int) + off = (tgt : Int)) (hn : pc + 3 = nx) : SJ own cc ini pc (t_if_eq tgt nx) := by
  subst hn
  intro p l e R s m args below meth c Y A Q C G n k lc st h L H locs ls h1 h2 h3 h4 h5
  unfold t_if_eq at h
  split at h
  · exact lv_if_eq C.1 C.2.1 hd ht (fun hc => (h.1 hc).2 L H locs ls h1 h2 h3 h4 h5) (fun hc => (h.2 hc).2 L H locs ls h1 h2 h3 h4 h5)
  · exact False.elim h
def t_if_ne (tgt nx : Nat) : WJ := fun _ _ K G n k lc st => match st with | .inl x :: r => (¬ x = 0 → K tgt G n k lc r) ∧ (x = 0 → K nx G n k lc r) | _ => False
theorem SJ_if_ne {off : Int} (tgt nx : Nat) (hd : decode cc pc = .ok (.ifCond .ne off, 3)) (ht : (pc : Int) + off = (tgt : Int)) (hn : pc + 3 = nx) : SJ own cc ini pc (t_if_ne tgt nx) := by
  subst hn
  intro p l e R s m args below meth c Y A Q C G n k lc st h L H locs ls h1 h2 h3 h4 h5
  unfold t_if_ne at h
  split at h
  · exact lv_if_ne C.1 C.2.1 hd ht (fun hc => (h.1 hc).2 L H locs ls h1 h2 h3 h4 h5) (fun hc => (h.2 hc).2 L H locs ls h1 h2 h3 h4 h5)
  · exact False.elim h
def t_if_lt (tgt nx : Nat) : WJ := fun _ _ K G n k lc st => match st with | .inl x :: r => (x < 0 → K tgt G n k lc r) ∧ (¬ x < 0 → K nx G n k lc r) | _ => False
theorem SJ_if_lt {off : Int} (tgt nx : Nat) (hd : decode cc pc = .ok (.ifCond .lt off, 3)) (ht : (pc : Int) + off = (tgt : Int)) (hn : pc + 3 = nx) : SJ own cc ini pc (t_if_lt tgt nx) := by
  subst hn
  intro p l e R s m args below meth c Y A Q C G n k lc st h L H locs ls h1 h2 h3 h4 h5
  unfold t_if_lt at h
  split at h
  · exact lv_if_lt C.1 C.2.1 hd ht (fun hc => (h.1 hc).2 L H locs ls h1 h2 h3 h4 h5) (fun hc => (h.2 hc).2 L H locs ls h1 h2 h3 h4 h5)
  · exact False.elim h
def t_if_ge (tgt nx : Nat) : WJ := fun _ _ K G n k lc st => match st with | .inl x :: r => (0 ≤ x → K tgt G n k lc r) ∧ (¬ 0 ≤ x → K nx G n k lc r) | _ => False
theorem SJ_if_ge {off : Int} (tgt nx : Nat) (hd : decode cc pc = .ok (.ifCond .ge off, 3)) (ht : (pc : Int) + off = (tgt : Int)) (hn : pc + 3 = nx) : SJ own cc ini pc (t_if_ge tgt nx) := by
  subst hn
  intro p l e R s m args below meth c Y A Q C G n k lc st h L H locs ls h1 h2 h3 h4 h5
  unfold t_if_ge at h
  split at h
  · exact lv_if_ge C.1 C.2.1 hd ht (fun hc => (h.1 hc).2 L H locs ls h1 h2 h3 h4 h5) (fun hc => (h.2 hc).2 L H locs ls h1 h2 h3 h4 h5)
  · exact False.elim h
def t_if_gt (tgt nx : Nat) : WJ := fun _ _ K G n k lc st => match st with | .inl x :: r => (0 < x → K tgt G n k lc r) ∧ (¬ 0 < x → K nx G n k lc r) | _ => False
theorem SJ_if_gt {off : Int} (tgt nx : Nat) (hd : decode cc pc = .ok (.ifCond .gt off, 3)) (ht : (pc : Int) + off = (tgt : Int)) (hn : pc + 3 = nx) : SJ own cc ini pc (t_if_gt tgt nx) := by
  subst hn
  intro p l e R s m args below meth c Y A Q C G n k lc st h L H locs ls h1 h2 h3 h4 h5
  unfold t_if_gt at h
  split at h
  · exact lv_if_gt C.1 C.2.1 hd ht (fun hc => (h.1 hc).2 L H locs ls h1 h2 h3 h4 h5) (fun hc => (h.2 hc).2 L H locs ls h1 h2 h3 h4 h5)
  · exact False.elim h
def t_if_le (tgt nx : Nat) : WJ := fun _ _ K G n k lc st => match st with | .inl x :: r => (x ≤ 0 → K tgt G n k lc r) ∧ (¬ x ≤ 0 → K nx G n k lc r) | _ => False
theorem SJ_if_le {off : Int} (tgt nx : Nat) (hd : decode cc pc = .ok (.ifCond .le off, 3)) (ht : (pc : Int) + off = (tgt : Int)) (hn : pc + 3 = nx) : SJ own cc ini pc (t_if_le tgt nx) := by
  subst hn
  intro p l e R s m args below meth c Y A Q C G n k lc st h L H locs ls h1 h2 h3 h4 h5
  unfold t_if_le at h
  split at h
  · exact lv_if_le C.1 C.2.1 hd ht (fun hc => (h.1 hc).2 L H locs ls h1 h2 h3 h4 h5) (fun hc => (h.2 hc).2 L H locs ls h1 h2 h3 h4 h5)
  · exact False.elim h
def t_icmp_eq (tgt nx : Nat) : WJ := fun _ _ K G n k lc st => match st with | .inl y :: .inl x :: r => (x = y → K tgt G n k lc r) ∧ (¬ x = y → K nx G n k lc r) | _ => False
theorem SJ_icmp_eq {off : Int} (tgt nx : Nat) (hd : decode cc pc = .ok (.if_icmp .eq off, 3)) (ht : (pc : Int) + off = (tgt : Int)) (hn : pc + 3 = nx) : SJ own cc ini pc (t_icmp_eq tgt nx) := by
  subst hn
  intro p l e R s m args below meth c Y A Q C G n k lc st h L H locs ls h1 h2 h3 h4 h5
  unfold t_icmp_eq at h
  split at h
  · exact lv_icmp_eq C.1 C.2.1 hd ht (fun hc => (h.1 hc).2 L H locs ls h1 h2 h3 h4 h5) (fun hc => (h.2 hc).2 L H locs ls h1 h2 h3 h4 h5)
  · exact False.elim h
def t_icmp_ne (tgt nx : Nat) : WJ := fun _ _ K G n k lc st => match st with | .inl y :: .inl x :: r => (¬ x = y → K tgt G n k lc r) ∧ (x = y → K nx G n k lc r) | _ => False
theorem SJ_icmp_ne {off : Int} (tgt nx : Nat) (hd : decode cc pc = .ok (.if_icmp .ne off, 3)) (ht : (pc : Int) + off = (tgt : Int)) (hn : pc + 3 = nx) : SJ own cc ini pc (t_icmp_ne tgt nx) := by
  subst hn
  intro p l e R s m args below meth c Y A Q C G n k lc st h L H locs ls h1 h2 h3 h4 h5
  unfold t_icmp_ne at h
  split at h
  · exact lv_icmp_ne C.1 C.2.1 hd ht (fun hc => (h.1 hc).2 L H locs ls h1 h2 h3 h4 h5) (fun hc => (h.2 hc).2 L H locs ls h1 h2 h3 h4 h5)
  · exact False.elim h
def t_icmp_lt (tgt nx : Nat) : WJ := fun _ _ K G n k lc st => match st with | .inl y :: .inl x :: r => (x < y → K tgt G n k lc r) ∧ (¬ x < y → K nx G n k lc r) | _ => False
theorem SJ_icmp_lt {off : Int} (tgt nx : Nat) (hd : decode cc pc = .ok (.if_icmp .lt off, 3)) (ht : (pc : Int) + off = (tgt : Int)) (hn : pc + 3 = nx) : SJ own cc ini pc (t_icmp_lt tgt nx) := by
  subst hn
  intro p l e R s m args below meth c Y A Q C G n k lc st h L H locs ls h1 h2 h3 h4 h5
  unfold t_icmp_lt at h
  split at h
  · exact lv_icmp_lt C.1 C.2.1 hd ht (fun hc => (h.1 hc).2 L H locs ls h1 h2 h3 h4 h5) (fun hc => (h.2 hc).2 L H locs ls h1 h2 h3 h4 h5)
  · exact False.elim h
def t_icmp_ge (tgt nx : Nat) : WJ := fun _ _ K G n k lc st => match st with | .inl y :: .inl x :: r => (y ≤ x → K tgt G n k lc r) ∧ (¬ y ≤ x → K nx G n k lc r) | _ => False
theorem SJ_icmp_ge {off : Int} (tgt nx : Nat) (hd : decode cc pc = .ok (.if_icmp .ge off, 3)) (ht : (pc : Int) + off = (tgt : Int)) (hn : pc + 3 = nx) : SJ own cc ini pc (t_icmp_ge tgt nx) := by
  subst hn
  intro p l e R s m args below meth c Y A Q C G n k lc st h L H locs ls h1 h2 h3 h4 h5
  unfold t_icmp_ge at h
  split at h
  · exact lv_icmp_ge C.1 C.2.1 hd ht (fun hc => (h.1 hc).2 L H locs ls h1 h2 h3 h4 h5) (fun hc => (h.2 hc).2 L H locs ls h1 h2 h3 h4 h5)
  · exact False.elim h
def t_icmp_gt (tgt nx : Nat) : WJ := fun _ _ K G n k lc st => match st with | .inl y :: .inl x :: r => (y < x → K tgt G n k lc r) ∧ (¬ y < x → K nx G n k lc r) | _ => False
theorem SJ_icmp_gt {off : Int} (tgt nx : Nat) (hd : decode cc pc = .ok (.if_icmp .gt off, 3)) (ht : (pc : Int) + off = (tgt : Int)) (hn : pc + 3 = nx) : SJ own cc ini pc (t_icmp_gt tgt nx) := by
  subst hn
  intro p l e R s m args below meth c Y A Q C G n k lc st h L H locs ls h1 h2 h3 h4 h5
  unfold t_icmp_gt at h
  split at h
  · exact lv_icmp_gt C.1 C.2.1 hd ht (fun hc => (h.1 hc).2 L H locs ls h1 h2 h3 h4 h5) (fun hc => (h.2 hc).2 L H locs ls h1 h2 h3 h4 h5)
  · exact False.elim h
def t_icmp_le (tgt nx : Nat) : WJ := fun _ _ K G n k lc st => match st with | .inl y :: .inl x :: r => (x ≤ y → K tgt G n k lc r) ∧ (¬ x ≤ y → K nx G n k lc r) | _ => False
theorem SJ_icmp_le {off : Int} (tgt nx : Nat) (hd : decode cc pc = .ok (.if_icmp .le off, 3)) (ht : (pc : Int) + off = (tgt : Int)) (hn : pc + 3 = nx) : SJ own cc ini pc (t_icmp_le tgt nx) := by
  subst hn
  intro p l e R s m args below meth c Y A Q C G n k lc st h L H locs ls h1 h2 h3 h4 h5
  unfold t_icmp_le at h
  split at h
  · exact lv_icmp_le C.1 C.2.1 hd ht (fun hc => (h.1 hc).2 L H locs ls h1 h2 h3 h4 h5) (fun hc => (h.2 hc).2 L H locs ls h1 h2 h3 h4 h5)
  · exact False.elim h
def t_acmp_eq (tgt nx : Nat) : WJ := fun _ _ K G n k lc st => match st with | .inr (.inr y) :: .inr (.inr x) :: r => (x = y → K tgt G n k lc r) ∧ (¬ x = y → K nx G n k lc r) | _ => False
theorem SJ_acmp_eq {off : Int} (tgt nx : Nat) (hd : decode cc pc = .ok (.if_acmp .eq off, 3)) (ht : (pc : Int) + off = (tgt : Int)) (hn : pc + 3 = nx) : SJ own cc ini pc (t_acmp_eq tgt nx) := by
  subst hn
  intro p l e R s m args below meth c Y A Q C G n k lc st h L H locs ls h1 h2 h3 h4 h5
  unfold t_acmp_eq at h
  split at h
  · exact lv_acmp_eq C.1 C.2.1 hd ht (fun hc => (h.1 hc).2 L H locs ls h1 h2 h3 h4 h5) (fun hc => (h.2 hc).2 L H locs ls h1 h2 h3 h4 h5)
  · exact False.elim h
def t_acmp_ne (tgt nx : Nat) : WJ := fun _ _ K G n k lc st => match st with | .inr (.inr y) :: .inr (.inr x) :: r => (¬ x = y → K tgt G n k lc r) ∧ (x = y → K nx G n k lc r) | _ => False
theorem SJ_acmp_ne {off : Int} (tgt nx : Nat) (hd : decode cc pc = .ok (.if_acmp .ne off, 3)) (ht : (pc : Int) + off = (tgt : Int)) (hn : pc + 3 = nx) : SJ own cc ini pc (t_acmp_ne tgt nx) := by
  subst hn
  intro p l e R s m args below meth c Y A Q C G n k lc st h L H locs ls h1 h2 h3 h4 h5
  unfold t_acmp_ne at h
  split at h
  · exact lv_acmp_ne C.1 C.2.1 hd ht (fun hc => (h.1 hc).2 L H locs ls h1 h2 h3 h4 h5) (fun hc => (h.2 hc).2 L H locs ls h1 h2 h3 h4 h5)
  · exact False.elim h
def t_ifnull (tgt nx : Nat) : WJ := fun _ _ K G n k lc st => match st with | .inr (.inr o) :: r => (o = none → K tgt G n k lc r) ∧ (∀ a, o = some a → K nx G n k lc r) | _ => False
theorem SJ_ifnull {off : Int} (tgt nx : Nat) (hd : decode cc pc = .ok (.ifnull off, 3)) (ht : (pc : Int) + off = (tgt : Int)) (hn : pc + 3 = nx) : SJ own cc ini pc (t_ifnull tgt nx) := by
  subst hn
  intro p l e R s m args below meth c Y A Q C G n k lc st h L H locs ls h1 h2 h3 h4 h5
  match st, h with
  | .inr (.inr none) :: r, h => exact lv_ifnullN C.1 C.2.1 hd ht ((h.1 rfl).2 L H locs ls h1 h2 h3 h4 h5)
  | .inr (.inr (some a)) :: r, h => exact lv_ifnull C.1 C.2.1 hd ((h.2 a rfl).2 L H locs ls h1 h2 h3 h4 h5)
  | .inr (.inl _) :: _, h => exact False.elim h
  | .inl _ :: _, h => exact False.elim h
  | [], h => exact False.elim h
def t_ifnonnull (tgt nx : Nat) : WJ := fun _ _ K G n k lc st => match st with | .inr (.inr o) :: r => (∀ a, o = some a → K tgt G n k lc r) ∧ (o = none → K nx G n k lc r) | _ => False
theorem SJ_ifnonnull {off : Int} (tgt nx : Nat) (hd : decode cc pc = .ok (.ifnonnull off, 3)) (ht : (pc : Int) + off = (tgt : Int)) (hn : pc + 3 = nx) : SJ own cc ini pc (t_ifnonnull tgt nx) := by
  subst hn
  intro p l e R s m args below meth c Y A Q C G n k lc st h L H locs ls h1 h2 h3 h4 h5
  match st, h with
  | .inr (.inr none) :: r, h => exact lv_ifnonnullN C.1 C.2.1 hd ((h.2 rfl).2 L H locs ls h1 h2 h3 h4 h5)
  | .inr (.inr (some a)) :: r, h => exact lv_ifnonnull C.1 C.2.1 hd ht ((h.1 a rfl).2 L H locs ls h1 h2 h3 h4 h5)
  | .inr (.inl _) :: _, h => exact False.elim h
  | .inl _ :: _, h => exact False.elim h
  | [], h => exact False.elim h
/-- a table's jump: out of it to dflt; in it by the place that is read off -/
def t_table (lo hi : Int) (offs : List Nat) (dflt : Nat) : WJ := fun _ _ K G n k lc st => match st with | .inl x :: r => (x.toInt < lo ∨ hi < x.toInt → K dflt G n k lc r) ∧ (∀ j tgt : Nat, x.toInt = lo + j → offs[j]? = some tgt → K tgt G n k lc r) | _ => False
theorem SJ_table {lo hi d : Int} {os : Array Int} {len : Nat} (offs : List Nat) (dflt : Nat) (hd : decode cc pc = .ok (.tableswitch d lo hi os, len)) (ht : (pc : Int) + d = (dflt : Int)) (ho : os.toList.map (fun o => (pc : Int) + o) = offs.map (fun (t : Nat) => (t : Int))) (hl : (offs.length : Int) = hi - lo + 1) : SJ own cc ini pc (t_table lo hi offs dflt) := by
  intro p l e R s m args below meth c Y A Q C G n k lc st h L H locs ls h1 h2 h3 h4 h5
  unfold t_table at h
  split at h
  · rename_i x r
    by_cases hx : x.toInt < lo ∨ hi < x.toInt
    · exact lv_tableOut C.1 C.2.1 hd hx ht ((h.1 hx).2 L H locs ls h1 h2 h3 h4 h5)
    · have h6 : ¬ x.toInt < lo := fun q => hx (Or.inl q)
      have h7 : ¬ hi < x.toInt := fun q => hx (Or.inr q)
      have hj : (x.toInt - lo).toNat < offs.length := by omega
      have e1 := congrArg (fun l => l[(x.toInt - lo).toNat]?) ho
      simp only [List.getElem?_map, List.getElem?_eq_getElem hj, Option.map_some] at e1
      cases e2 : os.toList[(x.toInt - lo).toNat]? with
      | none => rw [e2] at e1; cases e1
      | some o =>
        rw [e2] at e1
        have e3 : (pc : Int) + o = (offs[(x.toInt - lo).toNat] : Int) := Option.some.inj e1
        exact lv_tableIn C.1 C.2.1 hd h6 h7 (by rw [← Array.getElem?_toList]; exact e2) e3 ((h.2 (x.toInt - lo).toNat _ (by omega) (List.getElem?_eq_getElem hj)).2 L H locs ls h1 h2 h3 h4 h5)
  · exact False.elim h
/-! the heap -/
theorem cf_at {Y : YT} {G : GH} {a : Nat} {e : AC} (h : G a = some e) : cf Y G a = cv Y e := by simp [cf, h]
theorem cf_up (Y : YT) (G : GH) (a : Nat) (e : AC) : va_up (cf Y G) a (cv Y e) = cf Y (va_up G a (some e)) := by
  funext b
  by_cases hb : b = a
  · subst hb; simp [va_up, cf]
  · simp [va_up, cf, hb]
theorem GL_idx {Y : YT} {G : GH} {L : List Nat} {a : Nat} {e : AC} (hL : GL G L) (h : G a = some e) : ∃ k : Nat, (va_pl L (cf Y G))[k]? = some (a, cv Y e) := by
  obtain ⟨k, hk⟩ := va_pl_get (X := []) (f := cf Y G) ((hL a).mpr (by rw [h]; exact fun q => by cases q))
  rw [cf_at h] at hk
  exact ⟨k, hk⟩
theorem GL_set {Y : YT} {G : GH} {L : List Nat} {A : Nat → Prop} {a k : Nat} {e e' : AC} (hL : GL G L) (h : G a = some e) (hD : va_D A (va_pl L (cf Y G))) (hk : (va_pl L (cf Y G))[k]? = some (a, cv Y e)) : (va_pl L (cf Y G)).set k (a, cv Y e') = va_pl L (cf Y (va_up G a (some e'))) := by
  have h9 := va_pl_set (X := []) (f := cf Y G) (e := cv Y e') hD ((hL a).mpr (by rw [h]; exact fun q => by cases q)) (by rw [cf_at h]; exact hk)
  rw [cf_up] at h9
  exact h9
theorem GL_up {G : GH} {L : List Nat} {a : Nat} {e e' : AC} (hL : GL G L) (h : G a = some e) : GL (va_up G a (some e')) L := by
  intro b
  by_cases hb : b = a
  · subst hb
    exact ⟨fun _ => by simp [va_up], fun _ => (hL b).mpr (by rw [h]; exact fun q => by cases q)⟩
  · rw [show va_up G a (some e') b = G b from by simp [va_up, hb]]; exact hL b
theorem GL_new {G : GH} {L : List Nat} {q : Nat} {e : AC} (hL : GL G L) : GL (va_up G q (some e)) (L ++ [q]) := by
  intro b
  by_cases hb : b = q
  · subst hb
    exact ⟨fun _ => by simp [va_up], fun _ => by simp⟩
  · rw [show va_up G q (some e) b = G b from by simp [va_up, hb], List.mem_append, hL b]
    exact ⟨fun h => h.elim id (fun h => absurd (List.mem_singleton.mp h) hb), Or.inl⟩
theorem GL_push {Y : YT} {G : GH} {L : List Nat} {q : Nat} {e : AC} (h : q ∉ L) : va_pl L (cf Y G) ++ [(q, cv Y e)] = va_pl (L ++ [q]) (cf Y (va_up G q (some e))) := by
  rw [va_pl_push h, cf_up]
theorem GL_none {G : GH} {L : List Nat} {q : Nat} (hL : GL G L) (h : q ∉ L) : G q = none := by
  cases hq : G q with
  | none => rfl
  | some e => exact absurd ((hL q).mpr (by rw [hq]; exact fun z => by cases z)) h
def w_get (ci kf : Nat) : WT := fun _ _ K G n k lc st => match st with | .inr (.inr (some a)) :: r => ∃ fs, G a = some (.inr (ci, fs)) ∧ getF fs kf (fun v => K G n k lc (v :: r)) | _ => False
theorem SS_get {ci kf i N : Nat} {C' ref : String} {T : u_T} (hd : decode cc pc = .ok (.getfield i, 3)) (hc : vwCl[ci]? = some (C', T, N)) (hin : ∀ w ∈ u_ws C' T N, w ∈ tg) (hk : kf < N) (hl : Jvm.Cond.fieldLink own i ref (T kf).2.1 (T kf).2.2.1 ∈ tg) (hs : ref = (T kf).1 ∨ Jvm.Cond.sameField ref (T kf).1 (T kf).2.1 (T kf).2.2.1 ∈ tg) : SS own cc ini pc (pc + 3) (w_get ci kf) := by
  intro p l e R s m args below meth c Y A Q K C hK G n k lc st h L H locs ls h1 h2 h3 h4 h5
  unfold w_get at h
  split at h
  · rename_i a r
    obtain ⟨fs, hG, h⟩ := h
    obtain ⟨v, hv, h⟩ := getF_spec h
    obtain ⟨q0, hq0⟩ := GL_idx (Y := Y) h1 hG
    refine va_get (D := Y.1) C.1 C.2.1 C.2.2.2.1 hin C.2.2.1 C.2.2.2.2.1.1 h2 q0 hq0 hc kf hk (C.2.2.2.1 _ hl) ?_ (v := cvv v) (by rw [List.getElem?_map, hv]; rfl) hd (hK _ _ _ _ _ h L H locs ls h1 h2 h3 h4 h5)
    rcases hs with hs | hs
    · subst hs; exact fun _ h9 => h9
    · exact fun x hx => u_same (C.2.2.2.1 _ hs) x hx
  · exact False.elim h
/-- a field of Stage, of an object that is a Stage or a Work -/
def w_getS (kf : Nat) : WT := fun _ _ K G n k lc st => match st with | .inr (.inr (some a)) :: r => ∃ ci fs, G a = some (.inr (ci, fs)) ∧ (ci = 6 ∨ ci = 7) ∧ getF fs kf (fun v => K G n k lc (v :: r)) | _ => False
theorem SS_getS {kf : Nat} (h6 : SS own cc ini pc (pc + 3) (w_get 6 kf)) (h7 : SS own cc ini pc (pc + 3) (w_get 7 kf)) : SS own cc ini pc (pc + 3) (w_getS kf) := by
  intro p l e R s m args below meth c Y A Q K C hK G n k lc st h
  unfold w_getS at h
  split at h
  · obtain ⟨ci, fs, hG, hci, h⟩ := h
    rcases hci with rfl | rfl
    · exact h6 p l e R s m args below meth c Y A Q K C hK G n k lc _ ⟨fs, hG, h⟩
    · exact h7 p l e R s m args below meth c Y A Q K C hK G n k lc _ ⟨fs, hG, h⟩
  · exact False.elim h
theorem nar_rf {ty : FieldType} (h : (∃ C, ty = .object C) ∨ ∃ t, ty = .array t) (o : Option Nat) : narrow ty (va_rf o) = va_rf o ∧ fits ty (va_rf o) = true := by
  rcases h with ⟨C, rfl⟩ | ⟨t, rfl⟩ <;> cases o <;> exact ⟨rfl, rfl⟩
theorem nar_z {x : Int32} (h : x = 0 ∨ x = 1) : narrow .boolean (.int x) = .int x ∧ fits .boolean (.int x) = true := by
  rcases h with rfl | rfl <;> exact ⟨by decide +kernel, by decide +kernel⟩
/-- what a field of this type may be given -/
def okv (ty : FieldType) (v : AV) : Prop := narrow ty (cvv v) = cvv v ∧ fits ty (cvv v) = true
theorem SS_put {ci kf i N : Nat} {C' ref : String} {T : u_T} {ty : FieldType} (ty0 : Nat → FieldType) (hd : decode cc pc = .ok (.putfield i, 3)) (hc : vwCl[ci]? = some (C', T, N)) (hin : ∀ w ∈ u_ws C' T N, w ∈ tg) (hty : ∀ k, k < N → parseFieldDescriptor (T k).2.2.1 = some (ty0 k)) (hnm : ∀ a, a < N → ∀ b, b < N → a ≠ b → (T a).2.1 ≠ (T b).2.1) (hk : kf < N) (hl : Jvm.Cond.fieldLink own i ref (T kf).2.1 (T kf).2.2.1 ∈ tg) (hs : ref = (T kf).1 ∨ Jvm.Cond.sameField ref (T kf).1 (T kf).2.1 (T kf).2.2.1 ∈ tg) (htd : parseFieldDescriptor (T kf).2.2.1 = some ty) (hfin : (T kf).2.2.2 = false ∨ ((T kf).2.2.2 = true ∧ (T kf).1 = own ∧ ini)) :
    SS own cc ini pc (pc + 3) (fun _ _ K G n k lc st => match st with | v :: .inr (.inr (some a)) :: r => okv ty v ∧ ∃ fs, G a = some (.inr (ci, fs)) ∧ setF fs kf v (fun fs' => K (va_up G a (some (.inr (ci, fs')))) n k lc r) | _ => False) := by
  intro p l e R s m args below meth c Y A Q K C hK G n k lc st h L H locs ls h1 h2 h3 h4 h5

  split at h
  · rename_i v a r
    obtain ⟨hok, fs, hG, h⟩ := h
    obtain ⟨hlt, h⟩ := setF_spec h
    obtain ⟨q0, hq0⟩ := GL_idx (Y := Y) h1 hG
    have hsm : ∀ x, s.fieldFound? (T kf).1 (T kf).2.1 (T kf).2.2.1 = some x → s.fieldFound? ref (T kf).2.1 (T kf).2.2.1 = some x := by
      rcases hs with hs | hs
      · subst hs; exact fun _ h9 => h9
      · exact fun x hx => u_same (C.2.2.2.1 _ hs) x hx
    have hset : ((va_pl L (cf Y G)).set q0 (a, .inr (ci, (fs.map cvv).set kf (cvv v)))) = va_pl L (cf Y (va_up G a (some (.inr (ci, fs.set kf v))))) := by
      rw [← List.map_set]
      exact GL_set (e' := .inr (ci, fs.set kf v)) h1 hG h3 hq0
    rcases hfin with hfin | ⟨hfin, hdecl, hini⟩
    · refine va_put (D := Y.1) C.1 C.2.1 C.2.2.2.1 hin ty0 hty hnm C.2.2.1 C.2.2.2.2.1.1 h2 h3 h4 q0 hq0 hc kf hk (C.2.2.2.1 _ hl) hsm hfin htd hok.1 hok.2 (by rw [List.length_map]; exact hlt) hd (fun H1 locs1 g2 g3 g4 => ?_)
      rw [hset] at g2 g3
      exact hK _ _ _ _ _ h L H1 locs1 ls (GL_up h1 hG) g2 g3 g4 h5
    · refine va_putF (D := Y.1) C.1 C.2.1 C.2.2.2.1 hin ty0 hty hnm C.2.2.1 C.2.2.2.2.1.1 h2 h3 h4 q0 hq0 hc kf hk (C.2.2.2.1 _ hl) hsm hfin (C.2.2.2.2.2.2 hini) hdecl htd hok.1 hok.2 (by rw [List.length_map]; exact hlt) hd (fun H1 locs1 g2 g3 g4 => ?_)
      rw [hset] at g2 g3
      exact hK _ _ _ _ _ h L H1 locs1 ls (GL_up h1 hG) g2 g3 g4 h5
  · exact False.elim h
end VHEAP
