/-! THE JUDGEMENT U: a body that makes cells: the world is a list with addresses -/
def Uj (Γ : Cxt) (A : Nat → Prop) (pc : Nat) (lv : List (Nat × Value)) (st : List Value) (ws : va_W) (k n : Nat) : Prop :=
  match Γ with
  | ((p, l, e, R, s, m), (args, below, meth, c), (D, _, _, _), (nL, _, _), Qf) => ∀ (H : Heap) (locs : List Loc) (ls : Array Slot), va_P D classes ws H → va_D A ws → va_S A s.heap H locs → lv_has ls nL lv → W p l e R s m args below meth c H locs k n Qf (F0 m pc ls st)
def Ou (Γ : Cxt) (A : Nat → Prop) (own : String) (cc : ByteArray) (n : Nat) (rm : Room) : Prop :=
  match Γ with
  | ((p, _, _, R, s, m), (args, _, meth, c), (D, cI, cL, _), (nL, _, _), _) => CallFix p m c cc nL s args wl own ∧ meth.locks = false ∧ (va_K D classes [(cI, .int), (cL, .long)] s ∧ NW s) ∧ nL = n ∧ R = rm ∧ ∀ q, s.heap.size ≤ q → A q
def inI (Γ : Cxt) : Prop := match Γ with | ((_, _, _, _, _, _), (_, _, meth, _), _) => meth.name = "<init>"
section MADE
variable {Γ : Cxt} {A : Nat → Prop} {own : String} {cc : ByteArray} {n : Nat} {rm : Room} {pc : Nat} {lv lv' : List (Nat × Value)} {st : List Value} {ws ws' : va_W} {kc ks : Nat}
theorem u_aload_n {z : Fin 4} {i x : Nat} (O : Ou Γ A own cc n rm) (d : decode cc pc = .ok (.aload_n z, 1)) (hi : (z : Nat) = i) (j : Nat) (hj : lv[j]? = some (i, .ref x)) (k : Uj Γ A (pc + 1) lv (.ref x :: st) ws kc ks) : Uj Γ A pc lv st ws kc ks := by
  obtain ⟨⟨p, l, e, R, s, m⟩, ⟨args, below, meth, c⟩, ⟨D, cI, cL, ad⟩, ⟨nL, k0, n0⟩, Qf⟩ := Γ
  exact fun H locs ls hP hD hS hl => lv_aload_n O.1.1 O.1.2.1 d hi (lv_at hl j hj) (k H locs ls hP hD hS hl)
theorem u_iload_n {z : Fin 4} {i : Nat} {x : Int32} (O : Ou Γ A own cc n rm) (d : decode cc pc = .ok (.iload_n z, 1)) (hi : (z : Nat) = i) (j : Nat) (hj : lv[j]? = some (i, .int x)) (k : Uj Γ A (pc + 1) lv (.int x :: st) ws kc ks) : Uj Γ A pc lv st ws kc ks := by
  obtain ⟨⟨p, l, e, R, s, m⟩, ⟨args, below, meth, c⟩, ⟨D, cI, cL, ad⟩, ⟨nL, k0, n0⟩, Qf⟩ := Γ
  exact fun H locs ls hP hD hS hl => lv_iload_n O.1.1 O.1.2.1 d hi (lv_at hl j hj) (k H locs ls hP hD hS hl)
theorem u_istore_n {z : Fin 4} {i : Nat} {x : Int32} (O : Ou Γ A own cc n rm) (d : decode cc pc = .ok (.istore_n z, 1)) (hi : (z : Nat) = i) (hn : i < n) (he : (i, Value.int x) :: lv.filter (fun q => !(q.1 == i) && !(q.1 + 1 == i && q.2.category == 2)) = lv') (k : Uj Γ A (pc + 1) lv' st ws kc ks) : Uj Γ A pc lv (.int x :: st) ws kc ks := by
  obtain ⟨⟨p, l, e, R, s, m⟩, ⟨args, below, meth, c⟩, ⟨D, cI, cL, ad⟩, ⟨nL, k0, n0⟩, Qf⟩ := Γ
  obtain ⟨O1, O2, O3, O4, O5⟩ := O
  have O4 : nL = n := O4
  subst O4
  exact fun H locs ls hP hD hS hl => lv_istore_n O1.1 O1.2.1 d hi hl hn he (fun ls' hl' => k H locs ls' hP hD hS hl')
theorem u_astore_n {z : Fin 4} {i : Nat} {x : Nat} (O : Ou Γ A own cc n rm) (d : decode cc pc = .ok (.astore_n z, 1)) (hi : (z : Nat) = i) (hn : i < n) (he : (i, Value.ref x) :: lv.filter (fun q => !(q.1 == i) && !(q.1 + 1 == i && q.2.category == 2)) = lv') (k : Uj Γ A (pc + 1) lv' st ws kc ks) : Uj Γ A pc lv (.ref x :: st) ws kc ks := by
  obtain ⟨⟨p, l, e, R, s, m⟩, ⟨args, below, meth, c⟩, ⟨D, cI, cL, ad⟩, ⟨nL, k0, n0⟩, Qf⟩ := Γ
  obtain ⟨O1, O2, O3, O4, O5⟩ := O
  have O4 : nL = n := O4
  subst O4
  exact fun H locs ls hP hD hS hl => lv_astore_n O1.1 O1.2.1 d hi hl hn he (fun ls' hl' => k H locs ls' hP hD hS hl')
theorem u_iinc {i j : Nat} {z : Int} {x v : Int32} (O : Ou Γ A own cc n rm) (d : decode cc pc = .ok (.iinc i z, 3)) (hj : lv[j]? = some (i, .int x)) (hv : x + Int32.ofInt z = v) (hn : i < n) (he : (i, Value.int v) :: lv.filter (fun q => !(q.1 == i) && !(q.1 + 1 == i && q.2.category == 2)) = lv') (k : Uj Γ A (pc + 3) lv' st ws kc ks) : Uj Γ A pc lv st ws kc ks := by
  obtain ⟨⟨p, l, e, R, s, m⟩, ⟨args, below, meth, c⟩, ⟨D, cI, cL, ad⟩, ⟨nL, k0, n0⟩, Qf⟩ := Γ
  obtain ⟨O1, O2, O3, O4, O5⟩ := O
  have O4 : nL = n := O4
  subst O4
  exact fun H locs ls hP hD hS hl => lv_iinc O1.1 O1.2.1 d hl hj hv hn he (fun ls' hl' => k H locs ls' hP hD hS hl')
theorem u_iconst {z : Int} {v : Int32} (O : Ou Γ A own cc n rm) (d : decode cc pc = .ok (.iconst z, 1)) (hv : Int32.ofInt z = v) (k : Uj Γ A (pc + 1) lv (.int v :: st) ws kc ks) : Uj Γ A pc lv st ws kc ks := by
  obtain ⟨⟨p, l, e, R, s, m⟩, ⟨args, below, meth, c⟩, ⟨D, cI, cL, ad⟩, ⟨nL, k0, n0⟩, Qf⟩ := Γ
  exact fun H locs ls hP hD hS hl => lv_iconst O.1.1 O.1.2.1 d hv (k H locs ls hP hD hS hl)
theorem u_bipush {z : Int} {v : Int32} (O : Ou Γ A own cc n rm) (d : decode cc pc = .ok (.bipush z, 2)) (hv : (Int8.ofInt z).toInt32 = v) (k : Uj Γ A (pc + 2) lv (.int v :: st) ws kc ks) : Uj Γ A pc lv st ws kc ks := by
  obtain ⟨⟨p, l, e, R, s, m⟩, ⟨args, below, meth, c⟩, ⟨D, cI, cL, ad⟩, ⟨nL, k0, n0⟩, Qf⟩ := Γ
  exact fun H locs ls hP hD hS hl => lv_bipush O.1.1 O.1.2.1 d hv (k H locs ls hP hD hS hl)
theorem u_sipush {z : Int} {v : Int32} (O : Ou Γ A own cc n rm) (d : decode cc pc = .ok (.sipush z, 3)) (hv : (Int16.ofInt z).toInt32 = v) (k : Uj Γ A (pc + 3) lv (.int v :: st) ws kc ks) : Uj Γ A pc lv st ws kc ks := by
  obtain ⟨⟨p, l, e, R, s, m⟩, ⟨args, below, meth, c⟩, ⟨D, cI, cL, ad⟩, ⟨nL, k0, n0⟩, Qf⟩ := Γ
  exact fun H locs ls hP hD hS hl => lv_sipush O.1.1 O.1.2.1 d hv (k H locs ls hP hD hS hl)
theorem u_dup {v : Value} (O : Ou Γ A own cc n rm) (d : decode cc pc = .ok (.dup, 1)) (hc : v.category = 1) (k : Uj Γ A (pc + 1) lv (v :: v :: st) ws kc ks) : Uj Γ A pc lv (v :: st) ws kc ks := by
  obtain ⟨⟨p, l, e, R, s, m⟩, ⟨args, below, meth, c⟩, ⟨D, cI, cL, ad⟩, ⟨nL, k0, n0⟩, Qf⟩ := Γ
  exact fun H locs ls hP hD hS hl => lv_dup O.1.1 O.1.2.1 d hc (k H locs ls hP hD hS hl)
theorem u_goto {off : Int} {tgt : Nat} (O : Ou Γ A own cc n rm) (d : decode cc pc = .ok (.goto off, 3)) (ht : (pc : Int) + off = (tgt : Int)) (k : Uj Γ A tgt lv st ws kc ks) : Uj Γ A pc lv st ws kc ks := by
  obtain ⟨⟨p, l, e, R, s, m⟩, ⟨args, below, meth, c⟩, ⟨D, cI, cL, ad⟩, ⟨nL, k0, n0⟩, Qf⟩ := Γ
  exact fun H locs ls hP hD hS hl => lv_goto O.1.1 O.1.2.1 d ht (k H locs ls hP hD hS hl)
theorem u_icmp_ge {x y : Int32} {off : Int} {tgt : Nat} (O : Ou Γ A own cc n rm) (d : decode cc pc = .ok (.if_icmp .ge off, 3)) (ht : (pc : Int) + off = (tgt : Int)) (kt : y ≤ x → Uj Γ A tgt lv st ws kc ks) (kf : ¬ y ≤ x → Uj Γ A (pc + 3) lv st ws kc ks) : Uj Γ A pc lv (.int y :: .int x :: st) ws kc ks := by
  obtain ⟨⟨p, l, e, R, s, m⟩, ⟨args, below, meth, c⟩, ⟨D, cI, cL, ad⟩, ⟨nL, k0, n0⟩, Qf⟩ := Γ
  exact fun H locs ls hP hD hS hl => lv_icmp_ge O.1.1 O.1.2.1 d ht (fun h => kt h H locs ls hP hD hS hl) (fun h => kf h H locs ls hP hD hS hl)
theorem u_loc (ps : List Nat) (he : lv_pick lv ps = lv') (k : Uj Γ A pc lv' st ws kc ks) : Uj Γ A pc lv st ws kc ks := by
  obtain ⟨⟨p, l, e, R, s, m⟩, ⟨args, below, meth, c⟩, ⟨D, cI, cL, ad⟩, ⟨nL, k0, n0⟩, Qf⟩ := Γ
  exact fun H locs ls hP hD hS hl => k H locs ls hP hD hS (lv_sub hl ps he)
theorem u_eq (he : ws = ws') (k : Uj Γ A pc lv st ws' kc ks) : Uj Γ A pc lv st ws kc ks := he ▸ k
/-- Object's own constructor -/
theorem u_obj {idx a : Nat} (O : Ou Γ A own cc n rm) (d : decode cc pc = .ok (.invokespecial idx, 3)) (hl0 : Cond.methodLink own idx objectInit ∈ wl) (h1 : 1 ≤ rm.frames) (h2 : (st.map (fun v => v.category)).sum + 12 ≤ rm.locals) (k : Uj Γ A (pc + 3) lv st ws kc ks) : Uj Γ A pc lv (.ref a :: st) ws kc ks := by
  obtain ⟨⟨p, l, e, R, s, m⟩, ⟨args, below, meth, c⟩, ⟨D, cI, cL, ad⟩, ⟨nL, k0, n0⟩, Qf⟩ := Γ
  obtain ⟨O1, O2, O3, O4, O5, O6⟩ := O
  have O5 : R = rm := O5
  subst O5
  intro H locs ls hP hD hS hl
  refine W.objInit (a := a) (rest := st) O1.1 O1.2.1 O1.2.2.2.1 (O1.2.2.2.2 _ hl0) (O1.2.2.2.2 _ obj_inst) (O1.2.2.2.2 _ obj_code) rfl (hl.1.trans O1.2.2.1.symm) rfl d h1 ?_ (k H locs ls hP hD hS hl)
  show 2 * 0 + _ + 12 ≤ _
  omega
theorem u_get {q0 a idx ci j : Nat} {fs : List Value} {v : Value} (O : Ou Γ A own cc n rm) (d : decode cc pc = .ok (.getfield idx, 3)) (hf : FO own idx ci j) (he : ws[q0]? = some (a, .inr (ci, fs))) (hv : fs[j]? = some v) (k : Uj Γ A (pc + 3) lv (v :: st) ws kc ks) : Uj Γ A pc lv (.ref a :: st) ws kc ks := by
  obtain ⟨⟨p, l, e, R, s, m⟩, ⟨args, below, meth, c⟩, ⟨D, cI, cL, ad⟩, ⟨nL, k0, n0⟩, Qf⟩ := Γ
  obtain ⟨C, T, N, h1, h2, h3, h4⟩ := hf
  exact fun H locs ls hP hD hS hl => va_get (D := D) (ci := ci) (C := C) (T := T) (N := N) O.1.1 O.1.2.1 O.1.2.2.2.2 h2 O.1.2.2.2.1 O.2.2.1.1 hP q0 he h1 j h3 (O.1.2.2.2.2 _ h4) (fun _ h9 => h9) hv d (k H locs ls hP hD hS hl)
theorem u_put {q0 a idx ci j : Nat} {fs : List Value} {v : Value} {ty : FieldType} (O : Ou Γ A own cc n rm) (d : decode cc pc = .ok (.putfield idx, 3)) (hf : FO own idx ci j) (hp : FP ci j ty) (he : ws[q0]? = some (a, .inr (ci, fs))) (hn : narrow ty v = v) (ht : fits ty v = true) (hl0 : j < fs.length) (hw : ws.set q0 (a, .inr (ci, fs.set j v)) = ws') (k : Uj Γ A (pc + 3) lv st ws' kc ks) : Uj Γ A pc lv (v :: .ref a :: st) ws kc ks := by
  obtain ⟨⟨p, l, e, R, s, m⟩, ⟨args, below, meth, c⟩, ⟨D, cI, cL, ad⟩, ⟨nL, k0, n0⟩, Qf⟩ := Γ
  obtain ⟨C, T, N, h1, h2, h3, h4⟩ := hf
  obtain ⟨C', T', N', ty0, g1, g2, g3, g4, g5⟩ := hp
  have e := h1.symm.trans g1
  cases e
  subst hw
  exact fun H locs ls hP hD hS hl => va_put (D := D) (ci := ci) (v := v) (ty := ty) (C := C) (T := T) (N := N) O.1.1 O.1.2.1 O.1.2.2.2.2 h2 ty0 g2 g3 O.1.2.2.2.1 O.2.2.1.1 hP hD hS q0 he h1 j h3 (O.1.2.2.2.2 _ h4) (fun _ h9 => h9) g4 g5 hn ht hl0 d (fun H1 locs1 hP1 hD1 hS1 => k H1 locs1 ls hP1 hD1 hS1 hl)
/-- a final field, in a constructor -/
def FF (ci k : Nat) (ty : FieldType) : Prop := ∃ (C : String) (T : u_T) (N : Nat) (ty0 : Nat → FieldType), classes[ci]? = some (C, T, N) ∧ (∀ k, k < N → parseFieldDescriptor (T k).2.2.1 = some (ty0 k)) ∧ (∀ a, a < N → ∀ b, b < N → a ≠ b → (T a).2.1 ≠ (T b).2.1) ∧ (T k).2.2.2 = true ∧ parseFieldDescriptor (T k).2.2.1 = some ty ∧ (T k).1 = C
theorem u_putF {q0 a idx ci j : Nat} {fs : List Value} {v : Value} {ty : FieldType} (O : Ou Γ A own cc n rm) (hI : inI Γ) (d : decode cc pc = .ok (.putfield idx, 3)) (hf : FO own idx ci j) (hp : FF ci j ty) (hcl : (classes[ci]?).map (fun z => z.1) = some own) (he : ws[q0]? = some (a, .inr (ci, fs))) (hn : narrow ty v = v) (ht : fits ty v = true) (hl0 : j < fs.length) (hw : ws.set q0 (a, .inr (ci, fs.set j v)) = ws') (k : Uj Γ A (pc + 3) lv st ws' kc ks) : Uj Γ A pc lv (v :: .ref a :: st) ws kc ks := by
  obtain ⟨⟨p, l, e, R, s, m⟩, ⟨args, below, meth, c⟩, ⟨D, cI, cL, ad⟩, ⟨nL, k0, n0⟩, Qf⟩ := Γ
  obtain ⟨C, T, N, h1, h2, h3, h4⟩ := hf
  obtain ⟨C', T', N', ty0, g1, g2, g3, g4, g5, g6⟩ := hp
  have e := h1.symm.trans g1
  cases e
  rw [h1] at hcl
  have hC : C = own := Option.some.inj hcl
  subst hw
  exact fun H locs ls hP hD hS hl => va_putF (D := D) (ci := ci) (v := v) (ty := ty) (C := C) (T := T) (N := N) O.1.1 O.1.2.1 O.1.2.2.2.2 h2 ty0 g2 g3 O.1.2.2.2.1 O.2.2.1.1 hP hD hS q0 he h1 j h3 (O.1.2.2.2.2 _ h4) (fun _ h9 => h9) g4 hI (g6.trans hC) g5 hn ht hl0 d (fun H1 locs1 hP1 hD1 hS1 => k H1 locs1 ls hP1 hD1 hS1 hl)
theorem u_new {idx ci N : Nat} {C : String} {T : u_T} {ty : Nat → FieldType} {fs : List Value} (O : Ou Γ A own cc n rm) (d : decode cc pc = .ok (.new idx, 3)) (hin : ∀ w ∈ u_ws C T N, w ∈ wl) (hty : ∀ k, k < N → parseFieldDescriptor (T k).2.2.1 = some (ty k)) (hcl : Cond.classLink own idx C ∈ wl) (hinst : Cond.instantiable C N ∈ wl) (hini : Cond.initialized C ∈ wl) (hc : classes[ci]? = some (C, T, N)) (hfs : ∀ j, j < N → defaultValue (ty j) = vp_V fs j) (hR : kc + 1 ≤ rm.cells ∧ ks + N ≤ rm.slots) (k : ∀ q, Uj Γ A (pc + 3) lv (.ref q :: st) (ws ++ [(q, .inr (ci, fs))]) (kc + 1) (ks + N)) : Uj Γ A pc lv st ws kc ks := by
  obtain ⟨⟨p, l, e, R, s, m⟩, ⟨args, below, meth, c⟩, ⟨D, cI, cL, ad⟩, ⟨nL, k0, n0⟩, Qf⟩ := Γ
  obtain ⟨O1, O2, O3, O4, O5, O6⟩ := O
  have O5 : R = rm := O5
  subst O5
  exact fun H locs ls hP hD hS hl => va_new (ci := ci) (fs := fs) (C := C) (T := T) (N := N) O1.1 O1.2.1 O1.2.2.2.2 hin ty hty O1.2.2.2.1 (O1.2.2.2.2 _ hcl) (O1.2.2.2.2 _ hinst) (O1.2.2.2.2 _ hini) O3.1 hP hD hS O6 hc hfs hR.1 hR.2 d (fun q H1 hP1 hD1 hS1 => k q H1 locs ls hP1 hD1 hS1 hl)
/-- a new array; of ints, or of longs -/
theorem u_newI {x : Int32} {N : Nat} (O : Ou Γ A own cc n rm) (d : decode cc pc = .ok (.newarray .int, 2)) (h0 : ¬ x < 0) (hx : x.toNatClampNeg = N) (hb : N ≤ 1000) (hR : kc + 1 ≤ rm.cells ∧ ks + N ≤ rm.slots) (k : ∀ q cI, Γ.2.2.1.2.1 = cI → Uj Γ A (pc + 2) lv (.ref q :: st) (ws ++ [(q, .inl (cI, N, .inl (fun _ => 0)))]) (kc + 1) (ks + N)) : Uj Γ A pc lv (.int x :: st) ws kc ks := by
  obtain ⟨⟨p, l, e, R, s, m⟩, ⟨args, below, meth, c⟩, ⟨D, cI, cL, ad⟩, ⟨nL, k0, n0⟩, Qf⟩ := Γ
  obtain ⟨O1, O2, O3, O4, O5, O6⟩ := O
  have O5 : R = rm := O5
  subst O5
  intro H locs ls hP hD hS hl
  refine va_newa (atype := .int) (ty := .int) (a0 := (N, .inl (fun _ => 0))) O1.1 O1.2.1 (O1.2.2.2.2 _ arr_I) rfl O3.1 hP hD hS O6 (fun cA => rfl) h0 hx (by show N * 4 ≤ _; omega) hR.1 hR.2 d (fun q cA H1 hK1 hP1 hD1 hS1 => ?_)
  have e1 : s.vm.findClass _ = some cI := (hK1.2 0 (cI, .int) rfl).2
  have e2 : s.vm.findClass _ = some cA := (hK1.2 2 (cA, .int) rfl).2
  have e3 : cA = cI := Option.some.inj (e2.symm.trans e1)
  subst e3
  exact k q cA rfl H1 locs ls hP1 hD1 hS1 hl
theorem u_newL {x : Int32} {N : Nat} (O : Ou Γ A own cc n rm) (d : decode cc pc = .ok (.newarray .long, 2)) (h0 : ¬ x < 0) (hx : x.toNatClampNeg = N) (hb : N ≤ 1000) (hR : kc + 1 ≤ rm.cells ∧ ks + N ≤ rm.slots) (k : ∀ q cL, Γ.2.2.1.2.2.1 = cL → Uj Γ A (pc + 2) lv (.ref q :: st) (ws ++ [(q, .inl (cL, N, .inr (.inl (fun _ => 0))))]) (kc + 1) (ks + N)) : Uj Γ A pc lv (.int x :: st) ws kc ks := by
  obtain ⟨⟨p, l, e, R, s, m⟩, ⟨args, below, meth, c⟩, ⟨D, cI, cL, ad⟩, ⟨nL, k0, n0⟩, Qf⟩ := Γ
  obtain ⟨O1, O2, O3, O4, O5, O6⟩ := O
  have O5 : R = rm := O5
  subst O5
  intro H locs ls hP hD hS hl
  refine va_newa (atype := .long) (ty := .long) (a0 := (N, .inr (.inl (fun _ => 0)))) O1.1 O1.2.1 (O1.2.2.2.2 _ arr_L) rfl O3.1 hP hD hS O6 (fun cA => rfl) h0 hx (by show N * 8 ≤ _; omega) hR.1 hR.2 d (fun q cA H1 hK1 hP1 hD1 hS1 => ?_)
  have e1 : s.vm.findClass _ = some cL := (hK1.2 1 (cL, .long) rfl).2
  have e2 : s.vm.findClass _ = some cA := (hK1.2 2 (cA, .long) rfl).2
  have e3 : cA = cL := Option.some.inj (e2.symm.trans e1)
  subst e3
  exact k q cA rfl H1 locs ls hP1 hD1 hS1 hl
theorem u_alen {q0 a N : Nat} {f : Nat → Int32} {v : Int32} (O : Ou Γ A own cc n rm) (d : decode cc pc = .ok (.arraylength, 1)) (he : ws[q0]? = some (a, .inl (Γ.2.2.1.2.1, N, .inl f))) (hv : Int32.ofNat N = v) (k : Uj Γ A (pc + 1) lv (.int v :: st) ws kc ks) : Uj Γ A pc lv (.ref a :: st) ws kc ks := by
  obtain ⟨⟨p, l, e, R, s, m⟩, ⟨args, below, meth, c⟩, ⟨D, cI, cL, ad⟩, ⟨nL, k0, n0⟩, Qf⟩ := Γ
  exact fun H locs ls hP hD hS hl => va_alen O.1.1 O.1.2.1 O.2.2.1.1 hP q0 0 he (ty := .int) rfl hv d (k H locs ls hP hD hS hl)
theorem u_iast {q0 a N : Nat} {f : Nat → Int32} {i x : Int32} (O : Ou Γ A own cc n rm) (d : decode cc pc = .ok (.iastore, 1)) (he : ws[q0]? = some (a, .inl (Γ.2.2.1.2.1, N, .inl f))) (hi : vp_in i N) (hw : ws.set q0 (a, .inl (Γ.2.2.1.2.1, N, .inl (upd f i.toNatClampNeg x))) = ws') (k : Uj Γ A (pc + 1) lv st ws' kc ks) : Uj Γ A pc lv (.int x :: .int i :: .ref a :: st) ws kc ks := by
  obtain ⟨⟨p, l, e, R, s, m⟩, ⟨args, below, meth, c⟩, ⟨D, cI, cL, ad⟩, ⟨nL, k0, n0⟩, Qf⟩ := Γ
  subst hw
  exact fun H locs ls hP hD hS hl => va_iast O.1.1 O.1.2.1 O.2.2.1.1 hP hD hS q0 0 he rfl hi d (fun H1 locs1 hP1 hD1 hS1 => k H1 locs1 ls hP1 hD1 hS1 hl)
/-! contracts of such bodies -/
def Qc2 (D : va_G) (A : Nat → Prop) (Qw : va_W → Prop) : Array Value → State → Outcome → State → Prop := fun _ st o t => (∃ ws' : va_W, o = .returned none ∧ Qw ws' ∧ va_P D classes ws' t.heap ∧ va_D A ws') ∧ va_F A st t
def RetC (Γ : Cxt) (A : Nat → Prop) (Qw : va_W → Prop) (kc ks : Nat) : Prop :=
  match Γ with
  | ((_, _, _, _, s, _), (args, below, meth, _), (D, _, _, _), _, Qf) => meth.sig.returnType = none ∧ Qf = MQ below (Qc2 D A Qw) args s kc ks A
def MC (Γ : Cxt) (y : MethodName) (cc : ByteArray) (nl : Nat) (rm : Room) (as : List Value) (ws : va_W) (sz kc ks : Nat) (Qw : va_W → Prop) : Prop :=
  match Γ with
  | ((_, l, _, _, _, _), (_, _, _, _), (D, cI, cL, _), _, _) => Met l y (.code y cc nl none :: wl) rm (va_Pc as (fun U => U.heap.size = sz ∧ va_P D classes ws U.heap ∧ (va_K D classes [(cI, .int), (cL, .long)] U ∧ NW U) ∧ va_D (fun _ => True) ws)) (Qc2 D (va_A ws sz) Qw) kc ks (va_A ws sz)
theorem u_vret {Qw : va_W → Prop} (O : Ou Γ A own cc n rm) (r : RetC Γ A Qw kc ks) (d : decode cc pc = .ok (.return_, 1)) (h : Qw ws) : Uj Γ A pc lv [] ws kc ks := by
  obtain ⟨⟨p, l, e, R, s, m⟩, ⟨args, below, meth, c⟩, ⟨D, cI, cL, ad⟩, ⟨nL, k0, n0⟩, Qf⟩ := Γ
  obtain ⟨r1, r2⟩ := r
  have r2 : Qf = _ := r2
  subst r2
  have hlocks := O.2.1
  exact fun H locs ls hP hD hS hl => W.vret O.1.1 O.1.2.1 r1 (fun t ht hW => ⟨⟨ws, rfl, h, by rw [ht]; exact hP, hD⟩, hS.F ht⟩) hS.2.2 d hlocks
end MADE
theorem mc_of {Γ : Cxt} {y : MethodName} {cc : ByteArray} {n : Nat} {rm : Room} {as : List Value} {ws : va_W} {sz kc ks : Nat} {Qw : va_W → Prop} (hy : plainName y.cls = true) (hlen : (lg_sl as).length ≤ n)
    (h : ∀ Γ' : Cxt, Γ'.2.2.1.2.1 = Γ.2.2.1.2.1 → Γ'.2.2.1.2.2.1 = Γ.2.2.1.2.2.1 → (y.name = "<init>" → inI Γ') → Ou Γ' (va_A ws sz) y.cls cc n rm → RetC Γ' (va_A ws sz) Qw kc ks → Uj Γ' (va_A ws sz) 0 (lv_args 0 as) [] ws 0 0) : MC Γ y cc n rm as ws sz kc ks Qw := by
  obtain ⟨⟨p₀, l, e₀, R₀, s₀, m₀⟩, ⟨args₀, below₀, meth₀, c₀⟩, ⟨D, cI, cL, ad⟩, ⟨nL₀, k₀, n₀⟩, Qf₀⟩ := Γ
  refine Met.ofW (cc := cc) (maxL := n) (ret := none) hy rfl ?_
  intro p e s m args below meth c s₁ B hml hv
  obtain ⟨rfl, hsz, hP, hK, hD0⟩ := hv
  have hts := atoms_spec (ws := .code y cc n none :: wl) B.pre
  have hown : s.vm.findClass y.cls = some m.cls := findClass_of_methodNamed B.named
  have hnm : meth.name = y.name := (name_of_methodNamed B.named B.method).1
  have hl := lv_entry as (n := n) hlen
  rw [lg_entry_eq]
  subst hsz
  exact h ((p, l, e, rm, s, m), (as.toArray, below, meth, c), (D, cI, cL, ad), (n, 0, 0), MQ below (Qc2 D (va_A ws s.heap.size) Qw) as.toArray s kc ks (va_A ws s.heap.size)) rfl rfl (fun hi => hnm.trans hi) ⟨⟨B.exec, B.bytes, hml, hown, fun w hw => hts w (List.mem_cons_of_mem _ hw)⟩, B.notSynchronized, hK, rfl, rfl, fun q hq => Or.inr hq⟩ ⟨B.returns, rfl⟩ s.heap [] _ hP hD0.self va_S.rf hl
theorem pc_blind2 {D : va_G} {cI cL : ClassId} {as : List Value} {ws : va_W} {sz : Nat} : FrameBlind (va_Pc as (fun U => U.heap.size = sz ∧ va_P D classes ws U.heap ∧ (va_K D classes [(cI, .int), (cL, .long)] U ∧ NW U) ∧ va_D (fun _ => True) ws)) := by
  intro a U g mk q
  obtain ⟨q0, q1, q2, q3, q4⟩ := q
  exact ⟨q0, q1, q2, ⟨va_K.moved (u := U) (U := U.calling g mk a) (Vm.Alike.refl U.vm) q3.1, NW.same (u := U) (U := U.calling g mk a) rfl q3.2⟩, q4⟩
theorem va_nd_of : ∀ {l : List Nat}, (∀ i j a : Nat, l[i]? = some a → l[j]? = some a → i = j) → va_nd l = true
  | [], _ => rfl
  | b :: l, h => by
    simp only [va_nd, Bool.and_eq_true, decide_eq_true_eq]
    refine ⟨fun hm => ?_, va_nd_of (fun i j a hi hj => ?_)⟩
    · obtain ⟨i, hi⟩ := List.getElem?_of_mem hm
      have := h 0 (i + 1) b rfl (by simpa using hi)
      omega
    · have := h (i + 1) (j + 1) a (by simpa using hi) (by simpa using hj)
      omega
/-- behind such a call: the caller's other cells, and the callee's world -/
theorem u_behind {p : Program} {l : Launch} {e : Env} {R : Room} {s : State} {m : MethodId} {args : Array Value} {below : List Frame} {meth : Method} {c : Code} {D : va_G} {cI cL : ClassId} {ad : Nat → Nat} {nL k0 n0 kc ks mc ms pc : Nat} {Qf : State → Prop} {A : Nat → Prop} {lv : List (Nat × Value)} {st st0 : List Value} {Qw : va_W → Prop} {a : Array Value} {H : Heap} {locs : List Loc} {ls : Array Slot} {w1 w2 : va_W} {b : Nat} {e0 : va_E}
    (hr : va_Run p l e R s m args below meth c H locs kc ks mc ms (F0 m pc ls st0) st (Qc2 D (va_A [(b, e0)] H.size) Qw a) (va_A [(b, e0)] H.size)) (hP : va_P D classes (w1 ++ (b, e0) :: w2) H) (hD : va_D A (w1 ++ (b, e0) :: w2)) (hS : va_S A s.heap H locs) (hA : ∀ q, s.heap.size ≤ q → A q) (hl : lv_has ls nL lv)
    (k : ∀ ws', Qw ws' → Uj ((p, l, e, R, s, m), (args, below, meth, c), (D, cI, cL, ad), (nL, k0, n0), Qf) A (pc + 3) lv st (w1 ++ w2 ++ ws') (kc + mc) (ks + ms)) : W p l e R s m args below meth c H locs kc ks Qf (F0 m pc ls st0) := by
  intro T hT Xs
  obtain ⟨v, st₀, t, T', L, h0, X', hL, e1, e2, ⟨⟨ws', hv, hq, hw, hD1⟩, hz, hk⟩, sg⟩ := hr T hT Xs
  rw [h0] at hz hk
  have hv : v = none := by cases hv; rfl
  subst hv
  have hlen : (w1 ++ (b, e0) :: w2).length = w1.length + 1 + w2.length := by simp; omega
  have hC : [w1.length].map (fun i => (w1 ++ (b, e0) :: w2)[i]?) = [(b, e0)].map some := by simp
  have hF : ∀ q, va_A [(b, e0)] H.size q → A q := va_free hD hS hA [w1.length] hC
  have hR : (List.range w1.length ++ (List.range w2.length).map (fun i => w1.length + 1 + i)).map (fun i => (w1 ++ (b, e0) :: w2)[i]?) = (w1 ++ w2).map some := by
    rw [List.map_append, List.map_append]
    congr 1
    · apply List.ext_getElem?
      intro i
      simp only [List.getElem?_map, List.getElem?_range]
      by_cases hi : i < w1.length
      · simp [hi, List.getElem?_append_left]
      · simp [hi, List.getElem?_eq_none (Nat.not_lt.mp hi)]
    · apply List.ext_getElem?
      intro i
      simp only [List.getElem?_map]
      by_cases hi : i < w2.length
      · have : (w1 ++ (b, e0) :: w2)[w1.length + 1 + i]? = w2[i]? := by
          rw [List.getElem?_append_right (by omega)]
          rw [show w1.length + 1 + i - w1.length = i + 1 by omega]
          rfl
        simp [hi, this]
      · simp [hi, List.getElem?_eq_none (Nat.not_lt.mp hi)]
  have hnd : va_nd (List.range w1.length ++ (List.range w2.length).map (fun i => w1.length + 1 + i)) = true := by
    refine va_nd_of (fun i j a hi hj => ?_)
    have key : ∀ (i a : Nat), (List.range w1.length ++ (List.range w2.length).map (fun i => w1.length + 1 + i))[i]? = some a → a = if i < w1.length then i else i + 1 := by
      intro i a h
      by_cases hi : i < w1.length
      · rw [List.getElem?_append_left (by simpa using hi), List.getElem?_range hi] at h
        simp [hi]
        exact (Option.some.inj h).symm
      · rw [List.getElem?_append_right (by simpa using hi), List.getElem?_map, List.length_range] at h
        cases hz : (List.range w2.length)[i - w1.length]? with
        | none => rw [hz] at h; cases h
        | some z =>
          rw [hz] at h
          have h1 := (List.getElem?_eq_some_iff.mp hz)
          obtain ⟨h2, h3⟩ := h1
          simp at h3
          have h4 : w1.length + 1 + z = a := Option.some.inj h
          simp [hi]
          omega
    have h1 := key i a hi
    have h2 := key j a hj
    split at h1 <;> split at h2 <;> omega
  have hdis : ∀ i ∈ (List.range w1.length ++ (List.range w2.length).map (fun i => w1.length + 1 + i)), i ∉ [w1.length] := by
    intro i hi
    simp at hi ⊢
    rcases hi with h | ⟨z, hz, rfl⟩ <;> omega
  obtain ⟨hP2, hD2⟩ := va_join (wr := w1 ++ w2) hP hD [w1.length] _ hC hR hnd hdis (H1 := T'.heap) (fun q h1 h2 => by rw [e1]; exact hk q h1 h2) hF (by rw [e1]; exact hw) hD1
  obtain ⟨t2, a1, b1⟩ := k ws' hq T'.heap (locs ++ L) ls hP2 hD2 ⟨Nat.le_trans hS.1 (by rw [e1]; exact hz), fun q h1 h2 => by rw [e1, hk q (Nat.lt_of_lt_of_le h1 hS.1) (fun z => h2 (hF q z))]; exact hS.2.1 q h1 h2, fun q hq => by
      rcases List.mem_append.mp hq with h | h
      · exact hS.2.2 q h
      · exact hF _ (hL q h)⟩ hl T' rfl X'
  exact ⟨t2, sg t2 a1, b1⟩
section MADE2
variable {Γ : Cxt} {A : Nat → Prop} {own host : String} {cc bytes : ByteArray} {n : Nat} {rm rm' : Room} {pc : Nat} {lv : List (Nat × Value)} {st stk As : List Value} {w1 w2 : va_W} {kc ks mc ms idx na maxL b : Nat} {e0 : va_E} {y : MethodName} {Qw : va_W → Prop}
def RmC (rm rm' : Room) (maxL mc ms : Nat) : Prop := rm'.cells = mc ∧ rm'.slots = ms ∧ rm'.frames + 1 ≤ rm.frames ∧ 8 + (maxL + 11) + rm'.locals ≤ rm.locals
theorem pre_of2 {D : va_G} {cI cL : ClassId} {s : State} {H : Heap} {as : List Value} {ws : va_W} (hP : va_P D classes ws H) (hD : va_D A ws) (hK : va_K D classes [(cI, .int), (cL, .long)] s ∧ NW s) : ∀ U : State, U.heap = H → s.WarmedH U.vm → va_Pc as (fun U => U.heap.size = H.size ∧ va_P D classes ws U.heap ∧ (va_K D classes [(cI, .int), (cL, .long)] U ∧ NW U) ∧ va_D (fun _ => True) ws) as.toArray U :=
  fun U hU hW => ⟨rfl, by rw [hU], by rw [hU]; exact hP, ⟨va_K.moved hW.alike hK.1, hK.2.warm hW⟩, hD.weaken (fun _ _ _ _ => trivial)⟩
theorem one_P {D : va_G} {H : Heap} (hP : va_P D classes (w1 ++ (b, e0) :: w2) H) : va_P D classes [(b, e0)] H := hP.sub [w1.length] (by simp)
theorem one_D (hD : va_D A (w1 ++ (b, e0) :: w2)) : va_D A [(b, e0)] := hD.sub [w1.length] rfl (by simp)
/-- a constructor, on the cell b -/
theorem u_callI (O : Ou Γ A own cc n rm) (d : decode cc pc = .ok (.invokespecial idx, 3)) (hc : CIx y bytes maxL none na) (hl : Cond.methodLink own idx y ∈ wl) (hi : Cond.instanceMethod y ∈ wl) (hn0 : y.name = "<init>") (hR : RmC rm rm' maxL mc ms) (hn : As.length = na) (hW : (st.map (fun v => v.category)).sum ≤ 8) (hs : stk = As.reverse ++ .ref b :: st) (hf : kc + mc ≤ rm.cells ∧ ks + ms ≤ rm.slots)
    (hM : ∀ sz, MC Γ y bytes maxL rm' (.ref b :: As) [(b, e0)] sz mc ms Qw) (k : ∀ ws', Qw ws' → Uj Γ A (pc + 3) lv st (w1 ++ w2 ++ ws') (kc + mc) (ks + ms)) : Uj Γ A pc lv stk (w1 ++ (b, e0) :: w2) kc ks := by
  obtain ⟨⟨p, l, e, R, s, m⟩, ⟨args, below, meth, c⟩, ⟨D, cI, cL, ad⟩, ⟨nL, k0, n0⟩, Qf⟩ := Γ
  obtain ⟨O1, O2, O3, O4, O5, O6⟩ := O
  have O5 : R = rm := O5
  subst O5
  subst hs
  intro H locs ls hP hD hS hlv
  have hts := O1.2.2.2.2
  have cw : CallB R s args own idx y bytes maxL none (.code y bytes maxL none :: wl) rm' mc ms na ∧ y.name = "<init>" ∧ (Cond.instanceMethod y).before args s = true := ⟨callB_of na hts (goodIn_wl hc.1) rfl hR.1 hR.2.1 (hts _ hc.2.1) (hts _ hl) hc.2.2 ⟨hR.2.2.1, hR.2.2.2⟩, hn0, hts _ hi⟩
  have hru : va_Run p l e R s m args below meth c H locs kc ks mc ms (F0 m pc ls (As.reverse ++ .ref b :: st)) st (Qc2 D (va_A [(b, e0)] H.size) Qw (Value.ref b :: As).toArray) (va_A [(b, e0)] H.size) := va_runI (As := As) (rest := st) (g := F0 m pc ls (As.reverse ++ .ref b :: st)) (b := b) O1 (hM H.size) cw ⟨pc_blind2, pre_of2 (one_P hP) (one_D hD) O3⟩ rfl hn hlv.1 rfl (lv_room hW) d hf
  exact u_behind hru hP hD hS O6 hlv k
theorem u_callIN (O : Ou Γ A own cc n rm) (d : decode cc pc = .ok (.invokespecial idx, 3)) (hc : CIx y bytes maxL none na) (hl : (own, idx, y, host) ∈ nestL) (hi : Cond.instanceMethod y ∈ wl) (hn0 : y.name = "<init>") (hR : RmC rm rm' maxL mc ms) (hn : As.length = na) (hW : (st.map (fun v => v.category)).sum ≤ 8) (hs : stk = As.reverse ++ .ref b :: st) (hf : kc + mc ≤ rm.cells ∧ ks + ms ≤ rm.slots)
    (hM : ∀ sz, MC Γ y bytes maxL rm' (.ref b :: As) [(b, e0)] sz mc ms Qw) (k : ∀ ws', Qw ws' → Uj Γ A (pc + 3) lv st (w1 ++ w2 ++ ws') (kc + mc) (ks + ms)) : Uj Γ A pc lv stk (w1 ++ (b, e0) :: w2) kc ks := by
  obtain ⟨⟨p, l, e, R, s, m⟩, ⟨args, below, meth, c⟩, ⟨D, cI, cL, ad⟩, ⟨nL, k0, n0⟩, Qf⟩ := Γ
  obtain ⟨O1, O2, O3, O4, O5, O6⟩ := O
  have O5 : R = rm := O5
  subst O5
  subst hs
  intro H locs ls hP hD hS hlv
  have hts := O1.2.2.2.2
  have cw : va_CN R s args own idx y host bytes maxL none (.code y bytes maxL none :: wl) rm' mc ms na ∧ y.name = "<init>" ∧ (Cond.instanceMethod y).before args s = true := ⟨va_cnB na hts (goodIn_wl hc.1) rfl hR.1 hR.2.1 (O3.2 _ hl) (hts _ hc.2.1) hc.2.2 ⟨hR.2.2.1, hR.2.2.2⟩, hn0, hts _ hi⟩
  have hru : va_Run p l e R s m args below meth c H locs kc ks mc ms (F0 m pc ls (As.reverse ++ .ref b :: st)) st (Qc2 D (va_A [(b, e0)] H.size) Qw (Value.ref b :: As).toArray) (va_A [(b, e0)] H.size) := va_runIN (As := As) (rest := st) (g := F0 m pc ls (As.reverse ++ .ref b :: st)) (b := b) O1 (hM H.size) cw ⟨pc_blind2, pre_of2 (one_P hP) (one_D hD) O3⟩ rfl hn hlv.1 rfl (lv_room hW) d hf
  exact u_behind hru hP hD hS O6 hlv k
/-- a static method, on the cell b -/
theorem u_callS (O : Ou Γ A own cc n rm) (d : decode cc pc = .ok (.invokestatic idx, 3)) (hc : CIx y bytes maxL none na) (hl : Cond.methodLink own idx y ∈ wl) (hi : Cond.static y ∈ wl) (hR : RmC rm rm' maxL mc ms) (hn : As.length = na) (hW : (st.map (fun v => v.category)).sum ≤ 8) (hs : stk = As.reverse ++ st) (hf : kc + mc ≤ rm.cells ∧ ks + ms ≤ rm.slots)
    (hM : ∀ sz, MC Γ y bytes maxL rm' As [(b, e0)] sz mc ms Qw) (k : ∀ ws', Qw ws' → Uj Γ A (pc + 3) lv st (w1 ++ w2 ++ ws') (kc + mc) (ks + ms)) : Uj Γ A pc lv stk (w1 ++ (b, e0) :: w2) kc ks := by
  obtain ⟨⟨p, l, e, R, s, m⟩, ⟨args, below, meth, c⟩, ⟨D, cI, cL, ad⟩, ⟨nL, k0, n0⟩, Qf⟩ := Γ
  obtain ⟨O1, O2, O3, O4, O5, O6⟩ := O
  have O5 : R = rm := O5
  subst O5
  subst hs
  intro H locs ls hP hD hS hlv
  have hts := O1.2.2.2.2
  have cw : CallB R s args own idx y bytes maxL none (.code y bytes maxL none :: wl) rm' mc ms na ∧ (Cond.static y).before args s = true := ⟨callB_of na hts (goodIn_wl hc.1) rfl hR.1 hR.2.1 (hts _ hc.2.1) (hts _ hl) hc.2.2 ⟨hR.2.2.1, hR.2.2.2⟩, hts _ hi⟩
  have hru : va_Run p l e R s m args below meth c H locs kc ks mc ms (F0 m pc ls (As.reverse ++ st)) st (Qc2 D (va_A [(b, e0)] H.size) Qw As.toArray) (va_A [(b, e0)] H.size) := va_runS (As := As) (rest := st) (g := F0 m pc ls (As.reverse ++ st)) O1 (hM H.size) cw ⟨pc_blind2, pre_of2 (one_P hP) (one_D hD) O3⟩ rfl hn hlv.1 rfl (lv_room hW) d hf
  exact u_behind hru hP hD hS O6 hlv k
/-- another order of the cells -/
theorem u_perm {ws ws' : va_W} (is : List Nat) (hn : va_nd is = true) (hs : is.map (fun i => ws[i]?) = ws'.map some) (k : Uj Γ A pc lv st ws' kc ks) : Uj Γ A pc lv st ws kc ks := by
  obtain ⟨⟨p, l, e, R, s, m⟩, ⟨args, below, meth, c⟩, ⟨D, cI, cL, ad⟩, ⟨nL, k0, n0⟩, Qf⟩ := Γ
  refine fun H locs ls hP hD hS hl => k H locs ls (hP.sub is ?_) (hD.sub is hn hs) hS hl
  have h1 : ∀ (is : List Nat) (ws' : va_W), is.map (fun i => ws[i]?) = ws'.map some → is.filterMap (fun i => ws[i]?) = ws' := by
    intro is
    induction is with
    | nil => intro ws' h; cases ws' with
      | nil => rfl
      | cons _ _ => cases h
    | cons i is ih =>
      intro ws' h
      cases ws' with
      | nil => cases h
      | cons w ws' =>
        simp only [List.map_cons, List.cons.injEq] at h
        rw [List.filterMap_cons, h.1, ih ws' h.2]
  exact h1 is ws' hs
end MADE2
