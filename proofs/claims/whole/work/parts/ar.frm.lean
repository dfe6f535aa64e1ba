/-! the frame: a contract over a part of the heap leaves the rest as it was -/
section FRMS
def Sp (G G1 : GH) : Prop := ∀ a, G1 a ≠ none → G a = G1 a
def jnG (G G1 G2 : GH) : GH := fun a => match G2 a with
  | some x => some x
  | none => if (G1 a).isSome then none else G a
theorem wd_P {Y : YT} {L : List Nat} {f : Nat → va_E} {H : Heap} : va_P Y.1 vwCl (va_pl L f) H ↔ ∀ a ∈ L, va_at Y.1 vwCl (a, f a) H := by
  constructor
  · intro h a ha
    obtain ⟨k, hk⟩ := List.getElem?_of_mem (List.mem_map.mpr ⟨a, ha, rfl⟩ : (a, f a) ∈ va_pl L f)
    exact h k _ hk
  · intro h k q hk
    obtain ⟨a, ha, rfl⟩ := List.mem_map.mp (List.mem_of_getElem? hk)
    exact h a ha
theorem wd_D {A : Nat → Prop} {L : List Nat} {f : Nat → va_E} : va_D A (va_pl L f) ↔ L.Nodup ∧ ∀ a ∈ L, A a := by
  have hg : ∀ (i : Nat) (hi : i < L.length), (va_pl L f)[i]? = some (L[i], f L[i]) := fun i hi => by
    unfold va_pl
    rw [List.getElem?_map, List.getElem?_eq_getElem hi]
    rfl
  constructor
  · intro h
    refine ⟨List.pairwise_iff_getElem.mpr (fun i j hi hj hij e => ?_), fun a ha => ?_⟩
    · have := h.1 i j _ _ (hg i hi) (hg j hj) e
      omega
    · obtain ⟨k, hk⟩ := List.getElem?_of_mem (List.mem_map.mpr ⟨a, ha, rfl⟩ : (a, f a) ∈ va_pl L f)
      exact h.2 k _ hk
  · intro h
    have hl : ∀ (i : Nat) (q : Nat × va_E), (va_pl L f)[i]? = some q → ∃ hi : i < L.length, q = (L[i], f L[i]) := fun i q hq => by
      have hi : i < L.length := by
        have := (List.getElem?_eq_some_iff.mp hq).1
        simpa [va_pl] using this
      exact ⟨hi, Option.some.inj (hq.symm.trans (hg i hi))⟩
    refine ⟨fun i j p q hp hq e => ?_, fun k q hk => ?_⟩
    · obtain ⟨hi, rfl⟩ := hl i p hp
      obtain ⟨hj, rfl⟩ := hl j q hq
      have hn := List.pairwise_iff_getElem.mp h.1
      rcases Nat.lt_trichotomy i j with c | c | c
      · exact absurd e (hn i j hi hj c)
      · exact c
      · exact absurd e.symm (hn j i hj hi c)
    · obtain ⟨hi, rfl⟩ := hl k q hk
      exact h.2 _ (List.getElem_mem hi)
section
variable {Y : YT} {G G1 G2 : GH} {L L2 : List Nat} {H0 H : Heap} {A : Nat → Prop}
theorem cf_eq {a : Nat} (h : G a = G1 a) : cf Y G a = cf Y G1 a := by unfold cf; rw [h]
theorem wd_sub (hs : Sp G G1) (hL : GL G L) (hP : va_P Y.1 vwCl (va_pl L (cf Y G)) H) (hD : va_D A (va_pl L (cf Y G))) : ∃ L1, GL G1 L1 ∧ va_P Y.1 vwCl (va_pl L1 (cf Y G1)) H ∧ va_D A (va_pl L1 (cf Y G1)) := by
  have hm : ∀ a, a ∈ L.filter (fun a => (G1 a).isSome) ↔ G1 a ≠ none := fun a => by
    rw [List.mem_filter]
    constructor
    · intro h e
      rw [e] at h
      cases h.2
    · intro h
      refine ⟨(hL a).mpr (by rw [hs a h]; exact h), ?_⟩
      cases hg : G1 a with
      | none => exact absurd hg h
      | some x => rfl
  have hd := wd_D.mp hD
  refine ⟨L.filter (fun a => (G1 a).isSome), hm, wd_P.mpr (fun a ha => ?_), wd_D.mpr ⟨List.Pairwise.filter _ hd.1, fun a ha => hd.2 a (List.mem_filter.mp ha).1⟩⟩
  have h := wd_P.mp hP a (List.mem_filter.mp ha).1
  rwa [cf_eq (hs a ((hm a).mp ha))] at h
theorem wd_jn (hs : Sp G G1) (hL : GL G L) (hP : va_P Y.1 vwCl (va_pl L (cf Y G)) H0) (hD : va_D A (va_pl L (cf Y G))) (hL2 : GL G2 L2) (hP2 : va_P Y.1 vwCl (va_pl L2 (cf Y G2)) H) (hD2 : va_D (GA G1 H0.size) (va_pl L2 (cf Y G2))) (hF : ∀ q : Nat, q < H0.size → ¬ GA G1 H0.size q → H[q]? = H0[q]?) :
    Sp (jnG G G1 G2) G2 ∧ (∀ a, G1 a = none → G a ≠ none → jnG G G1 G2 a = G a ∧ G2 a = none) ∧ ∃ L', GL (jnG G G1 G2) L' ∧ va_P Y.1 vwCl (va_pl L' (cf Y (jnG G G1 G2))) H ∧ va_D (GA G H0.size) (va_pl L' (cf Y (jnG G G1 G2))) := by
  have hd := wd_D.mp hD
  have hd2 := wd_D.mp hD2
  have hlt : ∀ a ∈ L, a < H0.size := fun a ha => (wd_P.mp hP a ha).lt
  have hno : ∀ a, G1 a = none → G a ≠ none → G2 a = none := fun a h1 h2 => by
    cases hg : G2 a with
    | none => rfl
    | some x =>
      exfalso
      have hm : a ∈ L2 := (hL2 a).mpr (by rw [hg]; exact fun h => nomatch h)
      have hl := hlt a ((hL a).mpr h2)
      rcases hd2.2 a hm with h | h
      · exact h h1
      · omega
  have hj1 : Sp (jnG G G1 G2) G2 := fun a ha => by
    unfold jnG
    cases hg : G2 a with
    | none => exact absurd hg ha
    | some x => rfl
  have hj2 : ∀ a, G1 a = none → G a ≠ none → jnG G G1 G2 a = G a := fun a h1 h2 => by
    unfold jnG
    rw [hno a h1 h2, h1]
    rfl
  have hj3 : ∀ a, jnG G G1 G2 a ≠ none → G2 a ≠ none ∨ (G1 a = none ∧ G a ≠ none) := fun a ha => by
    unfold jnG at ha
    cases hg : G2 a with
    | some x => exact Or.inl (fun h => nomatch h)
    | none =>
      rw [hg] at ha
      cases h1 : G1 a with
      | some x => rw [h1] at ha; exact absurd rfl ha
      | none => rw [h1] at ha; exact Or.inr ⟨rfl, ha⟩
  have hf : ∀ a, a ∈ L.filter (fun a => (G1 a).isNone) ↔ G1 a = none ∧ G a ≠ none := fun a => by
    rw [List.mem_filter, hL a]
    constructor
    · rintro ⟨h1, h2⟩
      exact ⟨Option.isNone_iff_eq_none.mp h2, h1⟩
    · rintro ⟨h1, h2⟩
      exact ⟨h2, by rw [h1]; rfl⟩
  refine ⟨hj1, fun a h1 h2 => ⟨hj2 a h1 h2, hno a h1 h2⟩, L2 ++ L.filter (fun a => (G1 a).isNone), fun a => ?_, wd_P.mpr (fun a ha => ?_), wd_D.mpr ⟨List.pairwise_append.mpr ⟨hd2.1, List.Pairwise.filter _ hd.1, fun a ha b hb e => ?_⟩, fun a ha => ?_⟩⟩
  · rw [List.mem_append, hL2 a, hf a]
    constructor
    · rintro (h | h)
      · rw [hj1 a h]; exact h
      · rw [hj2 a h.1 h.2]; exact h.2
    · exact hj3 a
  · rcases List.mem_append.mp ha with h | h
    · have h9 := wd_P.mp hP2 a h
      rwa [← cf_eq (hj1 a ((hL2 a).mp h))] at h9
    · obtain ⟨h1, h2⟩ := (hf a).mp h
      have h9 := wd_P.mp hP a ((hL a).mpr h2)
      have hl := hlt a ((hL a).mpr h2)
      rw [← cf_eq (hj2 a h1 h2)] at h9
      refine h9.kept (hF a hl (fun hx => ?_))
      rcases hx with hx | hx
      · exact hx h1
      · omega
  · obtain ⟨h1, h2⟩ := (hf b).mp hb
    rw [e] at ha
    exact (hL2 b).mp ha (hno b h1 h2)
  · rcases List.mem_append.mp ha with h | h
    · rcases hd2.2 a h with h | h
      · exact Or.inl (by rw [hs a h]; exact h)
      · exact Or.inr h
    · exact Or.inl ((hf a).mp h).2
theorem GA_sub {sz : Nat} (hs : Sp G G1) (q : Nat) (h : GA G1 sz q) : GA G sz q := by
  rcases h with h | h
  · exact Or.inl (by rw [hs q h]; exact h)
  · exact Or.inr h
end
/-- what is known of the whole heap behind a call that knew the part G1 of it -/
def Fr (G G1 : GH) (post : GH → Prop) : GH → Prop := fun G' => ∃ G2, post G2 ∧ Sp G' G2 ∧ ∀ a, G1 a = none → G a ≠ none → G' a = G a ∧ G2 a = none
theorem Ct.frame {l : Launch} {y : MethodName} {cc : ByteArray} {maxL : Nat} {ret : Option FieldType} {rm : Room} {Y : YT} {av : List AV} {G G1 : GH} {post : Option AV → GH → Prop} (h : Ct l y cc maxL ret rm Y av G1 post) (hs : Sp G G1) : Ct l y cc maxL ret rm Y av G (fun r => Fr G G1 (post r)) := by
  intro sz p e h1 h2 h3 s m args below hf hS hP hK
  obtain ⟨hav, hsz, ⟨L, hL, hPP, hD⟩, hKE⟩ := hP
  obtain ⟨L1, a1, a2, a3⟩ := wd_sub hs hL hPP hD
  obtain ⟨n, o, a, b, c, ⟨⟨r, G2, q1, q2, ⟨L2, w1, w2, w3⟩, hF⟩, L9, q4, q5⟩⟩ := h sz p e h1 h2 h3 s m args below hf hS ⟨hav, hsz, ⟨L1, a1, a2, a3⟩, hKE.narrow (GA_sub hs)⟩ hK
  subst hsz
  obtain ⟨j1, j2, j3⟩ := wd_jn hs hL hPP hD w1 w2 w3 hF.2
  exact ⟨n, o, a, b, c, ⟨⟨r, jnG G G1 G2, q1, ⟨G2, q2, j1, j2⟩, j3, hF.1, fun q z1 z2 => hF.2 q z1 (fun z => z2 (GA_sub hs q z))⟩, L9, q4, fun q hq => GA_sub hs _ (q5 q hq)⟩⟩
theorem CtX.frame {l : Launch} {y : MethodName} {cc : ByteArray} {maxL : Nat} {ret : Option FieldType} {rm : Room} {Y : YT} {av : List AV} {G G1 : GH} {post : Option AV → GH → Prop} {pX : String → GH → Prop} (h : CtX l y cc maxL ret rm Y av G1 post pX) (hs : Sp G G1) : CtX l y cc maxL ret rm Y av G (fun r => Fr G G1 (post r)) (fun E => Fr G G1 (pX E)) := by
  intro sz p e h1 h2 h3 s m args below hf hS hP hK
  obtain ⟨⟨hav, hsz, ⟨L, hL, hPP, hD⟩, hKE⟩, hE⟩ := hP
  obtain ⟨L1, a1, a2, a3⟩ := wd_sub hs hL hPP hD
  subst hsz
  obtain ⟨n, o, a, b, c, hh⟩ := h s.heap.size p e h1 h2 h3 s m args below hf hS ⟨⟨hav, rfl, ⟨L1, a1, a2, a3⟩, hKE.narrow (GA_sub hs)⟩, hE.narrow (GA_sub hs)⟩ hK
  refine ⟨n, o, a, b, c, ?_⟩
  rcases hh with ⟨⟨r, G2, q1, q2, ⟨L2, w1, w2, w3⟩, hF⟩, L9, q4, q5⟩ | ⟨q, q1, E, ce, L9, ⟨G2, q2, ⟨L2, w1, w2, w3⟩, hF⟩, k1, k2, k3, k4, k5, k6⟩
  · obtain ⟨j1, j2, j3⟩ := wd_jn hs hL hPP hD w1 w2 w3 hF.2
    exact Or.inl ⟨⟨r, jnG G G1 G2, q1, ⟨G2, q2, j1, j2⟩, j3, hF.1, fun q z1 z2 => hF.2 q z1 (fun z => z2 (GA_sub hs q z))⟩, L9, q4, fun q hq => GA_sub hs _ (q5 q hq)⟩
  · obtain ⟨j1, j2, j3⟩ := wd_jn hs hL hPP hD w1 w2 w3 hF.2
    exact Or.inr ⟨q, q1, E, ce, L9, ⟨jnG G G1 G2, ⟨G2, q2, j1, j2⟩, j3, hF.1, fun q z1 z2 => hF.2 q z1 (fun z => z2 (GA_sub hs q z))⟩, k1, k2, k3, k4, k5, fun z hz => GA_sub hs _ (k6 z hz)⟩
end FRMS
