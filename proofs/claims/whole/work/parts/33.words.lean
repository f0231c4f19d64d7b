/-- the cells behind the two constructors -/
def X0 : XT := fun q => match q with
  | 0 => fun j => if j = 10 then (-1) else 0
  | 4 => fillN 52 5 (fun _ => 0)
  | 30 => fillN 40 (-1) (fun _ => 0)
  | 40 => fun j => if j = 6 then (-1) else if j = 5 then (-1) else 0
  | 48 => fun j => if j = 31 then (-1) else 0
  | 49 => fillN 52 5 (fun _ => 0)
  | 79 => fillN 40 (-1) (fun _ => 0)
  | _ => fun _ => 0
def Y0 : YT := fun _ _ => 0
/-- numbers of cells to addresses: the made ones, the texts, their bytes, a static, the script -/
def adr (as : List Nat) (aK aV : Nat → Nat) (t b : Nat) : Nat → Nat := fun k => if k < 80 then as.getD k 0 else if k < 83 then aK (k - 80) else if k < 86 then aV (k - 83) else if k = 86 then t else b
theorem arrI_b : Cond.arrayClass .int ∈ wl := arr_I
theorem arrL_b : Cond.arrayClass .long ∈ wl := arr_L
theorem arr_K {s : State} {args : Array Value} {ty : FieldType} (h : (Cond.arrayClass ty).before args s = true) (hn : ∀ C, ty ≠ .object C) : ∃ cA : ClassId, ArrOfT s cA ty ∧ va_RA s cA ty := by
  obtain ⟨cA, kA, comp, h1, h2, h3⟩ := Cond.arrayClass_spec h
  refine ⟨cA, fun n z => ⟨fun k h => (by cases h), kA, h2, comp, h3⟩, ?_⟩
  cases ty <;> first | exact h1 | exact absurd rfl (hn _)
set_option maxRecDepth 100000 in
theorem known_all {s : State} {args : Array Value} (hts : ∀ w ∈ wl, w.before args s = true) : ∃ (D : va_G) (cI cL : ClassId), va_K D classes [(cI, .int), (cL, .long)] s := by
  obtain ⟨c0, i0, hk0⟩ := u_known (C := RX0) (T := TX0) (N := 6) (n := 6) hts inW0 (hts _ is_0)
  obtain ⟨c1, i1, hk1⟩ := u_known (C := RX1) (T := TX1) (N := 10) (n := 10) hts inW1 (hts _ is_1)
  obtain ⟨c2, i2, hk2⟩ := u_known (C := RX2) (T := TX2) (N := 13) (n := 13) hts inW2 (hts _ is_2)
  obtain ⟨c3, i3, hk3⟩ := u_known (C := RX3) (T := TX3) (N := 15) (n := 15) hts inW3 (hts _ is_3)
  obtain ⟨c4, i4, hk4⟩ := u_known (C := RX4) (T := TX4) (N := 2) (n := 2) hts inW4 (hts _ is_4)
  obtain ⟨c5, i5, hk5⟩ := u_known (C := RX5) (T := TX5) (N := 12) (n := 12) hts inW5 (hts _ is_5)
  obtain ⟨c6, i6, hk6⟩ := u_known (C := RX6) (T := TX6) (N := 4) (n := 4) hts inW6 (hts _ is_6)
  obtain ⟨c7, i7, hk7⟩ := u_known (C := RX7) (T := TX7) (N := 7) (n := 7) hts inW7 (hts _ is_7)
  obtain ⟨c8, i8, hk8⟩ := u_known (C := RX8) (T := TX8) (N := 2) (n := 2) hts inW8 (hts _ is_8)
  obtain ⟨c9, i9, hk9⟩ := u_known (C := RX9) (T := TX9) (N := 11) (n := 11) hts inW9 (hts _ is_9)
  obtain ⟨c10, i10, hk10⟩ := u_known (C := RX10) (T := TX10) (N := 59) (n := 59) hts inW10 (hts _ is_10)
  obtain ⟨cI, a1, a2⟩ := arr_K (ty := .int) (hts _ arr_I) (fun C h => by cases h)
  obtain ⟨cL, b1, b2⟩ := arr_K (ty := .long) (hts _ arr_L) (fun C h => by cases h)
  refine ⟨(fun k => [c0, c1, c2, c3, c4, c5, c6, c7, c8, c9, c10].getD k c0, fun k => [i0, i1, i2, i3, i4, i5, i6, i7, i8, i9, i10].getD k i0), cI, cL, ?_, ?_⟩
  · intro k q hq
    match k, hq with
    | 0, hq => cases hq; exact hk0
    | 1, hq => cases hq; exact hk1
    | 2, hq => cases hq; exact hk2
    | 3, hq => cases hq; exact hk3
    | 4, hq => cases hq; exact hk4
    | 5, hq => cases hq; exact hk5
    | 6, hq => cases hq; exact hk6
    | 7, hq => cases hq; exact hk7
    | 8, hq => cases hq; exact hk8
    | 9, hq => cases hq; exact hk9
    | 10, hq => cases hq; exact hk10
    | k + 11, hq => simp [classes] at hq
  · intro k q hq
    match k, hq with
    | 0, hq => cases hq; exact ⟨a1, a2⟩
    | 1, hq => cases hq; exact ⟨b1, b2⟩
    | k + 2, hq => simp at hq
theorem nest_in : ∀ q ∈ nestL, Cond.methodLinkNest q.1 q.2.1 q.2.2.1 q.2.2.2 ∈ lw_tbl := by decide +kernel
theorem nest_all {s : State} {args : Array Value} (hts : ∀ w ∈ lw_tbl, w.before args s = true) : NW s := fun q hq => va_Nw.of rfl (hts _ (nest_in q hq))
def tmS (i : Nat) : Term := .string "UnderBars$PageParser" ([48, 60, 109].getD i 0)
set_option maxRecDepth 100000 in
theorem strs_all {s : State} {b : Nat} (hts : ∀ w ∈ lw_tbl, w.before #[Value.ref b] s = true) (hgv : (Jvm.Cond.and given_1 narrow_1).before #[Value.ref b] s = true) (A : Nat → Prop) (hA : ∀ a : Nat, a < s.heap.size → ¬ A a) :
    ∃ (aK aV : Nat → Nat) (t : Nat), vk_S 3 slen sbyt aK aV A s s.heap ∧ va_Z "java/lang/String" "COMPACT_STRINGS" "Z" (.int 1) A s s.heap ∧ vk_R "UnderBars$PageParser" 48 "day" (aK 0) s ∧ vk_R "UnderBars$PageParser" 60 "fount" (aK 1) s ∧ vk_R "UnderBars$PageParser" 109 "office" (aK 2) s ∧ (va_Z "jdk/internal/util/Preconditions" "SIOOBE_FORMATTER" "Ljava/util/function/BiFunction;" .null A s s.heap ∨ va_Z "jdk/internal/util/Preconditions" "SIOOBE_FORMATTER" "Ljava/util/function/BiFunction;" (.ref t) A s s.heap) := by
  have hs := flat_of_before _ hgv
  obtain ⟨aK, aV, h1, h2⟩ := vk_Sof (args := #[Value.ref b]) (s := s) (N := 3) (tm := tmS) (len := slen) (byt := sbyt) (A := A) (by decide)
    (fun i hi => by match i, hi with | 0, _ => exact hs _ (by decide +kernel) | 1, _ => exact hs _ (by decide +kernel) | 2, _ => exact hs _ (by decide +kernel))
    (fun i hi => by match i, hi with | 0, _ => exact hs _ (by decide +kernel) | 1, _ => exact hs _ (by decide +kernel) | 2, _ => exact hs _ (by decide +kernel))
    (fun i hi => by match i, hi with | 0, _ => exact hs _ (by decide +kernel) | 1, _ => exact hs _ (by decide +kernel) | 2, _ => exact hs _ (by decide +kernel))
    (fun i hi => by match i, hi with | 0, _ => exact hs _ (by decide +kernel) | 1, _ => exact hs _ (by decide +kernel) | 2, _ => exact hs _ (by decide +kernel))
    (fun i hi j hj => by
      match i, hi with
      | 0, _ => match j, hj with | 0, _ => exact hs _ (by decide +kernel) | 1, _ => exact hs _ (by decide +kernel) | 2, _ => exact hs _ (by decide +kernel)
      | 1, _ => match j, hj with | 0, _ => exact hs _ (by decide +kernel) | 1, _ => exact hs _ (by decide +kernel) | 2, _ => exact hs _ (by decide +kernel) | 3, _ => exact hs _ (by decide +kernel) | 4, _ => exact hs _ (by decide +kernel)
      | 2, _ => match j, hj with | 0, _ => exact hs _ (by decide +kernel) | 1, _ => exact hs _ (by decide +kernel) | 2, _ => exact hs _ (by decide +kernel) | 3, _ => exact hs _ (by decide +kernel) | 4, _ => exact hs _ (by decide +kernel) | 5, _ => exact hs _ (by decide +kernel))
    (fun i j hi hj hij => by
      match i, j, hi, hj with
      | 0, 0, _, _ => exact absurd rfl hij
      | 0, 1, _, _ => exact Or.inl (hs _ (by decide +kernel))
      | 0, 2, _, _ => exact Or.inl (hs _ (by decide +kernel))
      | 1, 0, _, _ => exact Or.inr (hs _ (by decide +kernel))
      | 1, 1, _, _ => exact absurd rfl hij
      | 1, 2, _, _ => exact Or.inl (hs _ (by decide +kernel))
      | 2, 0, _, _ => exact Or.inr (hs _ (by decide +kernel))
      | 2, 1, _, _ => exact Or.inr (hs _ (by decide +kernel))
      | 2, 2, _, _ => exact absurd rfl hij) hA
  have hz := va_Zof (C := "java/lang/String") (n := "COMPACT_STRINGS") (d := "Z") (v := .int 1) (A := A) (hts _ (List.mem_append_right _ (List.mem_of_getElem? (i := 553) (by decide +kernel)))) (hts _ (List.mem_append_right _ (List.mem_of_getElem? (i := 14) (by decide +kernel)))) (va_eqt (hs _ (by decide +kernel))) hA
  have hq := va_Zqof (C := "jdk/internal/util/Preconditions") (n := "SIOOBE_FORMATTER") (d := "Ljava/util/function/BiFunction;") (A := A) (hts _ (List.mem_append_right _ (List.mem_of_getElem? (i := 569) (by decide +kernel)))) (hts _ (List.mem_append_right _ (List.mem_of_getElem? (i := 16) (by decide +kernel)))) (hs _ (by decide +kernel)) hA
  obtain ⟨t, ht⟩ : ∃ t : Nat, va_Z "jdk/internal/util/Preconditions" "SIOOBE_FORMATTER" "Ljava/util/function/BiFunction;" .null A s s.heap ∨ va_Z "jdk/internal/util/Preconditions" "SIOOBE_FORMATTER" "Ljava/util/function/BiFunction;" (.ref t) A s s.heap := by
    rcases hq with h | ⟨t, h⟩
    · exact ⟨0, Or.inl h⟩
    · exact ⟨t, Or.inr h⟩
  exact ⟨aK, aV, t, h1, hz, vk_R.of (A := #[Value.ref b]) (hts _ (List.mem_append_right _ (List.mem_of_getElem? (i := 533) (by decide +kernel)))) (h2 0 (by decide)), vk_R.of (A := #[Value.ref b]) (hts _ (List.mem_append_right _ (List.mem_of_getElem? (i := 605) (by decide +kernel)))) (h2 1 (by decide)), vk_R.of (A := #[Value.ref b]) (hts _ (List.mem_append_right _ (List.mem_of_getElem? (i := 614) (by decide +kernel)))) (h2 2 (by decide)), ht⟩
theorem vk_S_congr {len : List Nat} {byt : List (List Int32)} {aK aV aK2 aV2 : Nat → Nat} {A : Nat → Prop} {U : State} {H : Heap} (h : vk_S 3 len byt aK aV A U H) (e1 : ∀ i, i < 3 → aK2 i = aK i) (e2 : ∀ i, i < 3 → aV2 i = aV i) : vk_S 3 len byt aK2 aV2 A U H :=
  ⟨fun i hi => by rw [e1 i hi, e2 i hi]; exact h.1 i hi, fun i j hi hj e => h.2 i j hi hj (by rw [← e1 i hi, ← e1 j hj]; exact e)⟩
set_option maxRecDepth 100000 in
/-- the made cells stand: the loop, by V -/
theorem law_bridge {p : Program} {e : Env} {s : State} {m : MethodId} {below : List Frame} {meth : Method} {c : Code} {l : Launch} {b L : Nat} {xs : Nat → Int32} {D : va_G} {cI cL : ClassId} {H : Heap} {locs : List Loc} {ls : Array Slot} {lq : List Nat} (hp : PL L xs X0 Y0) (hx : p.tables.exec = Jvm.exec) (hb : c.code = code) (hr : meth.sig.returnType = ret) (hml : c.maxLocals = 4) (hown : s.vm.findClass R_law = some m.cls) (htl : ∀ w ∈ lw_tbl, w.before #[Value.ref b] s = true) (hX : va_X b L xs s s.heap) (hbl : b < s.heap.size) (hlocks : meth.locks = false) (hgv : (Jvm.Cond.and given_1 narrow_1).before #[Value.ref b] s = true) (hK : va_K D classes [(cI, .int), (cL, .long)] s)
    (hP0 : ∀ aK aV t, va_P D classes (wld shp cI cL (adr lq aK aV t b) X0 Y0) H) (hD0 : ∀ aK aV t, va_D (fun q : Nat => s.heap.size ≤ q) (wld shp cI cL (adr lq aK aV t b) X0 Y0)) (hS : va_S (fun q : Nat => s.heap.size ≤ q) s.heap H locs) (hl : lv_has ls 4 [(3, .int 0), (2, .ref (lq.getD 48 0)), (1, .ref (lq.getD 0 0)), (0, .ref b)]) : W p l e room_1 s m #[Value.ref b] below meth c H locs 80 1927 (lw_Z below #[Value.ref b] s) (F0 m 18 ls []) := by
  have hts : ∀ w ∈ wl, w.before #[Value.ref b] s = true := fun w hw => htl w (List.mem_filter.mp hw).1
  have hN := nest_all htl
  have hA80 : ∀ a : Nat, (∃ k, k < 80 ∧ a = lq.getD k 0) → s.heap.size ≤ a := by
    rintro a ⟨k, hk, rfl⟩
    obtain ⟨z, hz⟩ : ∃ z, shp[k]? = some z := ⟨_, List.getElem?_eq_getElem (show k < shp.length from hk)⟩
    have h1 := (hD0 (fun _ => 0) (fun _ => 0) 0).2 k _ (wld_at hz)
    simp only [adr, hk, if_true] at h1
    exact h1
  obtain ⟨aK, aV, t, g1, g2, g3, g4, g5, g6⟩ := strs_all htl hgv (fun a => ∃ k, k < 80 ∧ a = lq.getD k 0) (fun a ha h => absurd ha (Nat.not_lt.mpr (hA80 a h)))
  have hP := hP0 aK aV t
  have hD := hD0 aK aV t
  have hA0 : (fun a => ∃ k, k < 80 ∧ a = lq.getD k 0) = A0 (adr lq aK aV t b) := by
    funext a
    refine propext ⟨fun ⟨k, hk, e⟩ => ⟨k, hk, by simp only [adr, hk, if_true]; exact e⟩, fun ⟨k, hk, e⟩ => ⟨k, hk, ?_⟩⟩
    have hk : k < 80 := hk
    simp only [adr, hk, if_true] at e
    exact e
  rw [hA0] at g1 g2 g6
  have hA1 : ∀ a, A0 (adr lq aK aV t b) a → s.heap.size ≤ a := fun a h => hA80 a (by rw [← hA0] at h; exact h)
  have hinj : Inj (adr lq aK aV t b) := by
    intro i j hi hj hij
    obtain ⟨z, hz⟩ : ∃ z, shp[i]? = some z := ⟨_, List.getElem?_eq_getElem hi⟩
    obtain ⟨w, hw⟩ : ∃ w, shp[j]? = some w := ⟨_, List.getElem?_eq_getElem hj⟩
    exact hD.1 i j _ _ (wld_at hz) (wld_at hw) hij
  have eK : ∀ i, i < 3 → adr lq aK aV t b (80 + i) = aK i := fun i hi => by
    unfold adr
    rw [if_neg (by omega), if_pos (by omega), Nat.add_sub_cancel_left]
  have eV : ∀ i, i < 3 → adr lq aK aV t b (80 + 3 + i) = aV i := fun i hi => by
    unfold adr
    rw [if_neg (by omega), if_neg (by omega), if_pos (by omega)]
    congr 1
    omega
  have g1 : vk_S 3 slen sbyt (fun i => adr lq aK aV t b (shp.length + i)) (fun i => adr lq aK aV t b (shp.length + 3 + i)) (A0 (adr lq aK aV t b)) s s.heap := vk_S_congr g1 eK eV
  have O : Ok ((p, l, e, room_1, s, m), (#[Value.ref b], below, meth, c), (D, cI, cL, adr lq aK aV t b), (4, 80, 1927), lw_Z below #[Value.ref b] s) R_law code 4 room_1 := ⟨⟨hx, hb, hml, hown, hts⟩, hlocks, ⟨hK, hN, ⟨g1, g2, g3, g4, g5, g6⟩, hinj⟩, rfl, rfl, by decide, by decide⟩
  have r : LawR ((p, l, e, room_1, s, m), (#[Value.ref b], below, meth, c), (D, cI, cL, adr lq aK aV t b), (4, 80, 1927), lw_Z below #[Value.ref b] s) L xs := ⟨hX, hbl, hA1, hr, rfl, rfl, rfl, rfl, rfl⟩
  refine va_forget (fun q hq => hS.2.2 q hq) ?_
  exact kL O r hp H [] ls hP ⟨hS.1, fun q h1 _ => hS.2.1 q h1 (Nat.not_le.mpr h1), fun q hq => by cases hq⟩ (lv_sub hl [3, 2, 1, 0] rfl)
