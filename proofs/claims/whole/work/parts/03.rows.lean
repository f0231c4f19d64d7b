theorem v_iconst {Γ : Cxt} {own : String} {cc : ByteArray} {n : Nat} {rm : Room} {pc : Nat} {lv : List (Nat × Value)} {st : List Value} {X : XT} {Y : YT} {z : Int} {v : Int32} (O : Ok Γ own cc n rm) (d : decode cc pc = .ok (.iconst z, 1)) (hv : Int32.ofInt z = v) (k : V Γ (pc + 1) lv (.int v :: st) X Y) : V Γ pc lv (st) X Y := by
  obtain ⟨⟨p, l, e, R, s, m⟩, ⟨args, below, meth, c⟩, ⟨D, cI, cL, ad⟩, ⟨nL, k0, n0⟩, Qf⟩ := Γ
  exact fun H locs ls hP hS hl => lv_iconst O.1.1 O.1.2.1 d hv (k H locs ls hP hS hl)
theorem v_bipush {Γ : Cxt} {own : String} {cc : ByteArray} {n : Nat} {rm : Room} {pc : Nat} {lv : List (Nat × Value)} {st : List Value} {X : XT} {Y : YT} {z : Int} {v : Int32} (O : Ok Γ own cc n rm) (d : decode cc pc = .ok (.bipush z, 2)) (hv : (Int8.ofInt z).toInt32 = v) (k : V Γ (pc + 2) lv (.int v :: st) X Y) : V Γ pc lv (st) X Y := by
  obtain ⟨⟨p, l, e, R, s, m⟩, ⟨args, below, meth, c⟩, ⟨D, cI, cL, ad⟩, ⟨nL, k0, n0⟩, Qf⟩ := Γ
  exact fun H locs ls hP hS hl => lv_bipush O.1.1 O.1.2.1 d hv (k H locs ls hP hS hl)
theorem v_sipush {Γ : Cxt} {own : String} {cc : ByteArray} {n : Nat} {rm : Room} {pc : Nat} {lv : List (Nat × Value)} {st : List Value} {X : XT} {Y : YT} {z : Int} {v : Int32} (O : Ok Γ own cc n rm) (d : decode cc pc = .ok (.sipush z, 3)) (hv : (Int16.ofInt z).toInt32 = v) (k : V Γ (pc + 3) lv (.int v :: st) X Y) : V Γ pc lv (st) X Y := by
  obtain ⟨⟨p, l, e, R, s, m⟩, ⟨args, below, meth, c⟩, ⟨D, cI, cL, ad⟩, ⟨nL, k0, n0⟩, Qf⟩ := Γ
  exact fun H locs ls hP hS hl => lv_sipush O.1.1 O.1.2.1 d hv (k H locs ls hP hS hl)
theorem v_lconst {Γ : Cxt} {own : String} {cc : ByteArray} {n : Nat} {rm : Room} {pc : Nat} {lv : List (Nat × Value)} {st : List Value} {X : XT} {Y : YT} {z : Fin 2} {v : Int64} (O : Ok Γ own cc n rm) (d : decode cc pc = .ok (.lconst z, 1)) (hv : Int64.ofNat (z : Nat) = v) (k : V Γ (pc + 1) lv (.long v :: st) X Y) : V Γ pc lv (st) X Y := by
  obtain ⟨⟨p, l, e, R, s, m⟩, ⟨args, below, meth, c⟩, ⟨D, cI, cL, ad⟩, ⟨nL, k0, n0⟩, Qf⟩ := Γ
  exact fun H locs ls hP hS hl => lv_lconst O.1.1 O.1.2.1 d hv (k H locs ls hP hS hl)
theorem v_ldc2 {Γ : Cxt} {own : String} {cc : ByteArray} {n : Nat} {rm : Room} {pc : Nat} {lv : List (Nat × Value)} {st : List Value} {X : XT} {Y : YT} {idx : Nat} {v : Int64} (O : Ok Γ own cc n rm) (d : decode cc pc = .ok (.ldc2_w idx, 3)) (hw : Cond.constantLong own idx v ∈ wl) (k : V Γ (pc + 3) lv (.long v :: st) X Y) : V Γ pc lv (st) X Y := by
  obtain ⟨⟨p, l, e, R, s, m⟩, ⟨args, below, meth, c⟩, ⟨D, cI, cL, ad⟩, ⟨nL, k0, n0⟩, Qf⟩ := Γ
  exact fun H locs ls hP hS hl => lv_ldc2 O.1.1 O.1.2.1 O.1.2.2.2.1 (O.1.2.2.2.2 _ hw) d (k H locs ls hP hS hl)
theorem v_ldc {Γ : Cxt} {own : String} {cc : ByteArray} {n : Nat} {rm : Room} {pc : Nat} {lv : List (Nat × Value)} {st : List Value} {X : XT} {Y : YT} {idx : Nat} {v : Int32} (O : Ok Γ own cc n rm) (d : decode cc pc = .ok (.ldc idx, 2)) (hw : Cond.constant own idx v ∈ wl) (k : V Γ (pc + 2) lv (.int v :: st) X Y) : V Γ pc lv (st) X Y := by
  obtain ⟨⟨p, l, e, R, s, m⟩, ⟨args, below, meth, c⟩, ⟨D, cI, cL, ad⟩, ⟨nL, k0, n0⟩, Qf⟩ := Γ
  exact fun H locs ls hP hS hl => lv_ldc O.1.1 O.1.2.1 O.1.2.2.2.1 (O.1.2.2.2.2 _ hw) d (k H locs ls hP hS hl)
theorem v_ldcw {Γ : Cxt} {own : String} {cc : ByteArray} {n : Nat} {rm : Room} {pc : Nat} {lv : List (Nat × Value)} {st : List Value} {X : XT} {Y : YT} {idx : Nat} {v : Int32} (O : Ok Γ own cc n rm) (d : decode cc pc = .ok (.ldc_w idx, 3)) (hw : Cond.constant own idx v ∈ wl) (k : V Γ (pc + 3) lv (.int v :: st) X Y) : V Γ pc lv (st) X Y := by
  obtain ⟨⟨p, l, e, R, s, m⟩, ⟨args, below, meth, c⟩, ⟨D, cI, cL, ad⟩, ⟨nL, k0, n0⟩, Qf⟩ := Γ
  exact fun H locs ls hP hS hl => lv_ldcw O.1.1 O.1.2.1 O.1.2.2.2.1 (O.1.2.2.2.2 _ hw) d (k H locs ls hP hS hl)
theorem tl_at {ad : Nat → Nat} {lv : List (Nat × Value)} {ls : Array Slot} {nL : Nat} (h : lv_has ls nL (tl ad lv)) (j : Nat) {i : Nat} {v : Value} (hj : lv[j]? = some (i, v)) : ls[i]? = some (.val (tv ad v)) := lv_at h j (by simp [tl, hj])
theorem v_iload_n {Γ : Cxt} {own : String} {cc : ByteArray} {n : Nat} {rm : Room} {pc : Nat} {lv : List (Nat × Value)} {st : List Value} {X : XT} {Y : YT} {z : Fin 4} {i : Nat} {x : Int32} (O : Ok Γ own cc n rm) (d : decode cc pc = .ok (.iload_n z, 1)) (hi : (z : Nat) = i) (j : Nat) (hj : lv[j]? = some (i, .int x)) (k : V Γ (pc + 1) lv (.int x :: st) X Y) : V Γ pc lv (st) X Y := by
  obtain ⟨⟨p, l, e, R, s, m⟩, ⟨args, below, meth, c⟩, ⟨D, cI, cL, ad⟩, ⟨nL, k0, n0⟩, Qf⟩ := Γ
  exact fun H locs ls hP hS hl => lv_iload_n O.1.1 O.1.2.1 d hi (tl_at hl j hj) (k H locs ls hP hS hl)
theorem v_iload {Γ : Cxt} {own : String} {cc : ByteArray} {n : Nat} {rm : Room} {pc : Nat} {lv : List (Nat × Value)} {st : List Value} {X : XT} {Y : YT} {i : Nat} {x : Int32} (O : Ok Γ own cc n rm) (d : decode cc pc = .ok (.iload i, 2)) (j : Nat) (hj : lv[j]? = some (i, .int x)) (k : V Γ (pc + 2) lv (.int x :: st) X Y) : V Γ pc lv (st) X Y := by
  obtain ⟨⟨p, l, e, R, s, m⟩, ⟨args, below, meth, c⟩, ⟨D, cI, cL, ad⟩, ⟨nL, k0, n0⟩, Qf⟩ := Γ
  exact fun H locs ls hP hS hl => lv_iload O.1.1 O.1.2.1 d (tl_at hl j hj) (k H locs ls hP hS hl)
theorem v_lload_n {Γ : Cxt} {own : String} {cc : ByteArray} {n : Nat} {rm : Room} {pc : Nat} {lv : List (Nat × Value)} {st : List Value} {X : XT} {Y : YT} {z : Fin 4} {i : Nat} {x : Int64} (O : Ok Γ own cc n rm) (d : decode cc pc = .ok (.lload_n z, 1)) (hi : (z : Nat) = i) (j : Nat) (hj : lv[j]? = some (i, .long x)) (k : V Γ (pc + 1) lv (.long x :: st) X Y) : V Γ pc lv (st) X Y := by
  obtain ⟨⟨p, l, e, R, s, m⟩, ⟨args, below, meth, c⟩, ⟨D, cI, cL, ad⟩, ⟨nL, k0, n0⟩, Qf⟩ := Γ
  exact fun H locs ls hP hS hl => lv_lload_n O.1.1 O.1.2.1 d hi (tl_at hl j hj) (k H locs ls hP hS hl)
theorem v_lload {Γ : Cxt} {own : String} {cc : ByteArray} {n : Nat} {rm : Room} {pc : Nat} {lv : List (Nat × Value)} {st : List Value} {X : XT} {Y : YT} {i : Nat} {x : Int64} (O : Ok Γ own cc n rm) (d : decode cc pc = .ok (.lload i, 2)) (j : Nat) (hj : lv[j]? = some (i, .long x)) (k : V Γ (pc + 2) lv (.long x :: st) X Y) : V Γ pc lv (st) X Y := by
  obtain ⟨⟨p, l, e, R, s, m⟩, ⟨args, below, meth, c⟩, ⟨D, cI, cL, ad⟩, ⟨nL, k0, n0⟩, Qf⟩ := Γ
  exact fun H locs ls hP hS hl => lv_lload O.1.1 O.1.2.1 d (tl_at hl j hj) (k H locs ls hP hS hl)
theorem v_aload_n {Γ : Cxt} {own : String} {cc : ByteArray} {n : Nat} {rm : Room} {pc : Nat} {lv : List (Nat × Value)} {st : List Value} {X : XT} {Y : YT} {z : Fin 4} {i : Nat} {x : Nat} (O : Ok Γ own cc n rm) (d : decode cc pc = .ok (.aload_n z, 1)) (hi : (z : Nat) = i) (j : Nat) (hj : lv[j]? = some (i, .ref x)) (k : V Γ (pc + 1) lv (.ref x :: st) X Y) : V Γ pc lv (st) X Y := by
  obtain ⟨⟨p, l, e, R, s, m⟩, ⟨args, below, meth, c⟩, ⟨D, cI, cL, ad⟩, ⟨nL, k0, n0⟩, Qf⟩ := Γ
  exact fun H locs ls hP hS hl => lv_aload_n O.1.1 O.1.2.1 d hi (tl_at hl j hj) (k H locs ls hP hS hl)
theorem v_aload {Γ : Cxt} {own : String} {cc : ByteArray} {n : Nat} {rm : Room} {pc : Nat} {lv : List (Nat × Value)} {st : List Value} {X : XT} {Y : YT} {i : Nat} {x : Nat} (O : Ok Γ own cc n rm) (d : decode cc pc = .ok (.aload i, 2)) (j : Nat) (hj : lv[j]? = some (i, .ref x)) (k : V Γ (pc + 2) lv (.ref x :: st) X Y) : V Γ pc lv (st) X Y := by
  obtain ⟨⟨p, l, e, R, s, m⟩, ⟨args, below, meth, c⟩, ⟨D, cI, cL, ad⟩, ⟨nL, k0, n0⟩, Qf⟩ := Γ
  exact fun H locs ls hP hS hl => lv_aload O.1.1 O.1.2.1 d (tl_at hl j hj) (k H locs ls hP hS hl)
theorem tl_filter {ad : Nat → Nat} {lv : List (Nat × Value)} {i : Nat} : (tl ad lv).filter (fun q => !(q.1 == i) && !(q.1 + 1 == i && q.2.category == 2)) = tl ad (lv.filter (fun q => !(q.1 == i) && !(q.1 + 1 == i && q.2.category == 2))) := by
  induction lv with
  | nil => rfl
  | cons a lv ih =>
    simp only [tl, List.map_cons, List.filter_cons, tv_cat] at ih ⊢
    split
    · rw [List.map_cons, ih]
    · exact ih
theorem tl_filter2 {ad : Nat → Nat} {lv : List (Nat × Value)} {i : Nat} : (tl ad lv).filter (fun q => !(q.1 == i) && (!(q.1 == i + 1) && !(q.1 + 1 == i && q.2.category == 2))) = tl ad (lv.filter (fun q => !(q.1 == i) && (!(q.1 == i + 1) && !(q.1 + 1 == i && q.2.category == 2)))) := by
  induction lv with
  | nil => rfl
  | cons a lv ih =>
    simp only [tl, List.map_cons, List.filter_cons, tv_cat] at ih ⊢
    split
    · rw [List.map_cons, ih]
    · exact ih
theorem v_istore_n {Γ : Cxt} {own : String} {cc : ByteArray} {n : Nat} {rm : Room} {pc : Nat} {lv : List (Nat × Value)} {st : List Value} {X : XT} {Y : YT} {z : Fin 4} {i : Nat} {x : Int32} {lv' : List (Nat × Value)} (O : Ok Γ own cc n rm) (d : decode cc pc = .ok (.istore_n z, 1)) (hi : (z : Nat) = i) (hn : i < n) (he : (i, .int x) :: lv.filter (fun q => !(q.1 == i) && !(q.1 + 1 == i && q.2.category == 2)) = lv') (k : V Γ (pc + 1) lv' st X Y) : V Γ pc lv (.int x :: st) X Y := by
  obtain ⟨⟨p, l, e, R, s, m⟩, ⟨args, below, meth, c⟩, ⟨D, cI, cL, ad⟩, ⟨nL, k0, n0⟩, Qf⟩ := Γ
  obtain ⟨O1, O2, O3, O4, O5⟩ := O
  have O4 : nL = n := O4
  subst O4
  refine fun H locs ls hP hS hl => lv_istore_n O1.1 O1.2.1 d hi hl hn rfl (fun ls' hl' => k H locs ls' hP hS ?_)
  rw [tl_filter] at hl'
  rw [← he]
  exact hl'
theorem v_istore {Γ : Cxt} {own : String} {cc : ByteArray} {n : Nat} {rm : Room} {pc : Nat} {lv : List (Nat × Value)} {st : List Value} {X : XT} {Y : YT} {i : Nat} {x : Int32} {lv' : List (Nat × Value)} (O : Ok Γ own cc n rm) (d : decode cc pc = .ok (.istore i, 2)) (hn : i < n) (he : (i, .int x) :: lv.filter (fun q => !(q.1 == i) && !(q.1 + 1 == i && q.2.category == 2)) = lv') (k : V Γ (pc + 2) lv' st X Y) : V Γ pc lv (.int x :: st) X Y := by
  obtain ⟨⟨p, l, e, R, s, m⟩, ⟨args, below, meth, c⟩, ⟨D, cI, cL, ad⟩, ⟨nL, k0, n0⟩, Qf⟩ := Γ
  obtain ⟨O1, O2, O3, O4, O5⟩ := O
  have O4 : nL = n := O4
  subst O4
  refine fun H locs ls hP hS hl => lv_istore O1.1 O1.2.1 d hl hn rfl (fun ls' hl' => k H locs ls' hP hS ?_)
  rw [tl_filter] at hl'
  rw [← he]
  exact hl'
theorem v_lstore_n {Γ : Cxt} {own : String} {cc : ByteArray} {n : Nat} {rm : Room} {pc : Nat} {lv : List (Nat × Value)} {st : List Value} {X : XT} {Y : YT} {z : Fin 4} {i : Nat} {x : Int64} {lv' : List (Nat × Value)} (O : Ok Γ own cc n rm) (d : decode cc pc = .ok (.lstore_n z, 1)) (hi : (z : Nat) = i) (hn : i + 1 < n) (he : (i, .long x) :: lv.filter (fun q => !(q.1 == i) && (!(q.1 == i + 1) && !(q.1 + 1 == i && q.2.category == 2))) = lv') (k : V Γ (pc + 1) lv' st X Y) : V Γ pc lv (.long x :: st) X Y := by
  obtain ⟨⟨p, l, e, R, s, m⟩, ⟨args, below, meth, c⟩, ⟨D, cI, cL, ad⟩, ⟨nL, k0, n0⟩, Qf⟩ := Γ
  obtain ⟨O1, O2, O3, O4, O5⟩ := O
  have O4 : nL = n := O4
  subst O4
  refine fun H locs ls hP hS hl => lv_lstore_n O1.1 O1.2.1 d hi hl hn rfl (fun ls' hl' => k H locs ls' hP hS ?_)
  rw [tl_filter2] at hl'
  rw [← he]
  exact hl'
theorem v_lstore {Γ : Cxt} {own : String} {cc : ByteArray} {n : Nat} {rm : Room} {pc : Nat} {lv : List (Nat × Value)} {st : List Value} {X : XT} {Y : YT} {i : Nat} {x : Int64} {lv' : List (Nat × Value)} (O : Ok Γ own cc n rm) (d : decode cc pc = .ok (.lstore i, 2)) (hn : i + 1 < n) (he : (i, .long x) :: lv.filter (fun q => !(q.1 == i) && (!(q.1 == i + 1) && !(q.1 + 1 == i && q.2.category == 2))) = lv') (k : V Γ (pc + 2) lv' st X Y) : V Γ pc lv (.long x :: st) X Y := by
  obtain ⟨⟨p, l, e, R, s, m⟩, ⟨args, below, meth, c⟩, ⟨D, cI, cL, ad⟩, ⟨nL, k0, n0⟩, Qf⟩ := Γ
  obtain ⟨O1, O2, O3, O4, O5⟩ := O
  have O4 : nL = n := O4
  subst O4
  refine fun H locs ls hP hS hl => lv_lstore O1.1 O1.2.1 d hl hn rfl (fun ls' hl' => k H locs ls' hP hS ?_)
  rw [tl_filter2] at hl'
  rw [← he]
  exact hl'
theorem v_astore_n {Γ : Cxt} {own : String} {cc : ByteArray} {n : Nat} {rm : Room} {pc : Nat} {lv : List (Nat × Value)} {st : List Value} {X : XT} {Y : YT} {z : Fin 4} {i : Nat} {x : Nat} {lv' : List (Nat × Value)} (O : Ok Γ own cc n rm) (d : decode cc pc = .ok (.astore_n z, 1)) (hi : (z : Nat) = i) (hn : i < n) (he : (i, .ref x) :: lv.filter (fun q => !(q.1 == i) && !(q.1 + 1 == i && q.2.category == 2)) = lv') (k : V Γ (pc + 1) lv' st X Y) : V Γ pc lv (.ref x :: st) X Y := by
  obtain ⟨⟨p, l, e, R, s, m⟩, ⟨args, below, meth, c⟩, ⟨D, cI, cL, ad⟩, ⟨nL, k0, n0⟩, Qf⟩ := Γ
  obtain ⟨O1, O2, O3, O4, O5⟩ := O
  have O4 : nL = n := O4
  subst O4
  refine fun H locs ls hP hS hl => lv_astore_n O1.1 O1.2.1 d hi hl hn rfl (fun ls' hl' => k H locs ls' hP hS ?_)
  rw [tl_filter] at hl'
  rw [← he]
  exact hl'
theorem v_astore {Γ : Cxt} {own : String} {cc : ByteArray} {n : Nat} {rm : Room} {pc : Nat} {lv : List (Nat × Value)} {st : List Value} {X : XT} {Y : YT} {i : Nat} {x : Nat} {lv' : List (Nat × Value)} (O : Ok Γ own cc n rm) (d : decode cc pc = .ok (.astore i, 2)) (hn : i < n) (he : (i, .ref x) :: lv.filter (fun q => !(q.1 == i) && !(q.1 + 1 == i && q.2.category == 2)) = lv') (k : V Γ (pc + 2) lv' st X Y) : V Γ pc lv (.ref x :: st) X Y := by
  obtain ⟨⟨p, l, e, R, s, m⟩, ⟨args, below, meth, c⟩, ⟨D, cI, cL, ad⟩, ⟨nL, k0, n0⟩, Qf⟩ := Γ
  obtain ⟨O1, O2, O3, O4, O5⟩ := O
  have O4 : nL = n := O4
  subst O4
  refine fun H locs ls hP hS hl => lv_astore O1.1 O1.2.1 d hl hn rfl (fun ls' hl' => k H locs ls' hP hS ?_)
  rw [tl_filter] at hl'
  rw [← he]
  exact hl'
theorem v_iinc {Γ : Cxt} {own : String} {cc : ByteArray} {n : Nat} {rm : Room} {pc : Nat} {lv : List (Nat × Value)} {st : List Value} {X : XT} {Y : YT} {i j : Nat} {z : Int} {x v : Int32} {lv' : List (Nat × Value)} (O : Ok Γ own cc n rm) (d : decode cc pc = .ok (.iinc i z, 3)) (hj : lv[j]? = some (i, .int x)) (hv : x + Int32.ofInt z = v) (hn : i < n) (he : (i, Value.int v) :: lv.filter (fun q => !(q.1 == i) && !(q.1 + 1 == i && q.2.category == 2)) = lv') (k : V Γ (pc + 3) lv' st X Y) : V Γ pc lv st X Y := by
  obtain ⟨⟨p, l, e, R, s, m⟩, ⟨args, below, meth, c⟩, ⟨D, cI, cL, ad⟩, ⟨nL, k0, n0⟩, Qf⟩ := Γ
  obtain ⟨O1, O2, O3, O4, O5⟩ := O
  have O4 : nL = n := O4
  subst O4
  refine fun H locs ls hP hS hl => lv_iinc O1.1 O1.2.1 d hl (k := j) (by simp [tl, hj, tv]) hv hn rfl (fun ls' hl' => k H locs ls' hP hS ?_)
  rw [tl_filter] at hl'
  rw [← he]
  exact hl'
theorem v_iadd {Γ : Cxt} {own : String} {cc : ByteArray} {n : Nat} {rm : Room} {pc : Nat} {lv : List (Nat × Value)} {st : List Value} {X : XT} {Y : YT} {x y : Int32} (O : Ok Γ own cc n rm) (d : decode cc pc = .ok (.iadd, 1))  (k : V Γ (pc + 1) lv (.int (x + y) :: st) X Y) : V Γ pc lv (.int y :: .int x :: st) X Y := by
  obtain ⟨⟨p, l, e, R, s, m⟩, ⟨args, below, meth, c⟩, ⟨D, cI, cL, ad⟩, ⟨nL, k0, n0⟩, Qf⟩ := Γ
  exact fun H locs ls hP hS hl => lv_iadd O.1.1 O.1.2.1 d (k H locs ls hP hS hl)
theorem v_isub {Γ : Cxt} {own : String} {cc : ByteArray} {n : Nat} {rm : Room} {pc : Nat} {lv : List (Nat × Value)} {st : List Value} {X : XT} {Y : YT} {x y : Int32} (O : Ok Γ own cc n rm) (d : decode cc pc = .ok (.isub, 1))  (k : V Γ (pc + 1) lv (.int (x - y) :: st) X Y) : V Γ pc lv (.int y :: .int x :: st) X Y := by
  obtain ⟨⟨p, l, e, R, s, m⟩, ⟨args, below, meth, c⟩, ⟨D, cI, cL, ad⟩, ⟨nL, k0, n0⟩, Qf⟩ := Γ
  exact fun H locs ls hP hS hl => lv_isub O.1.1 O.1.2.1 d (k H locs ls hP hS hl)
theorem v_imul {Γ : Cxt} {own : String} {cc : ByteArray} {n : Nat} {rm : Room} {pc : Nat} {lv : List (Nat × Value)} {st : List Value} {X : XT} {Y : YT} {x y : Int32} (O : Ok Γ own cc n rm) (d : decode cc pc = .ok (.imul, 1))  (k : V Γ (pc + 1) lv (.int (x * y) :: st) X Y) : V Γ pc lv (.int y :: .int x :: st) X Y := by
  obtain ⟨⟨p, l, e, R, s, m⟩, ⟨args, below, meth, c⟩, ⟨D, cI, cL, ad⟩, ⟨nL, k0, n0⟩, Qf⟩ := Γ
  exact fun H locs ls hP hS hl => lv_imul O.1.1 O.1.2.1 d (k H locs ls hP hS hl)
theorem v_iand {Γ : Cxt} {own : String} {cc : ByteArray} {n : Nat} {rm : Room} {pc : Nat} {lv : List (Nat × Value)} {st : List Value} {X : XT} {Y : YT} {x y : Int32} (O : Ok Γ own cc n rm) (d : decode cc pc = .ok (.iand, 1))  (k : V Γ (pc + 1) lv (.int (x &&& y) :: st) X Y) : V Γ pc lv (.int y :: .int x :: st) X Y := by
  obtain ⟨⟨p, l, e, R, s, m⟩, ⟨args, below, meth, c⟩, ⟨D, cI, cL, ad⟩, ⟨nL, k0, n0⟩, Qf⟩ := Γ
  exact fun H locs ls hP hS hl => lv_iand O.1.1 O.1.2.1 d (k H locs ls hP hS hl)
theorem v_ior {Γ : Cxt} {own : String} {cc : ByteArray} {n : Nat} {rm : Room} {pc : Nat} {lv : List (Nat × Value)} {st : List Value} {X : XT} {Y : YT} {x y : Int32} (O : Ok Γ own cc n rm) (d : decode cc pc = .ok (.ior, 1))  (k : V Γ (pc + 1) lv (.int (x ||| y) :: st) X Y) : V Γ pc lv (.int y :: .int x :: st) X Y := by
  obtain ⟨⟨p, l, e, R, s, m⟩, ⟨args, below, meth, c⟩, ⟨D, cI, cL, ad⟩, ⟨nL, k0, n0⟩, Qf⟩ := Γ
  exact fun H locs ls hP hS hl => lv_ior O.1.1 O.1.2.1 d (k H locs ls hP hS hl)
theorem v_ixor {Γ : Cxt} {own : String} {cc : ByteArray} {n : Nat} {rm : Room} {pc : Nat} {lv : List (Nat × Value)} {st : List Value} {X : XT} {Y : YT} {x y : Int32} (O : Ok Γ own cc n rm) (d : decode cc pc = .ok (.ixor, 1))  (k : V Γ (pc + 1) lv (.int (x ^^^ y) :: st) X Y) : V Γ pc lv (.int y :: .int x :: st) X Y := by
  obtain ⟨⟨p, l, e, R, s, m⟩, ⟨args, below, meth, c⟩, ⟨D, cI, cL, ad⟩, ⟨nL, k0, n0⟩, Qf⟩ := Γ
  exact fun H locs ls hP hS hl => lv_ixor O.1.1 O.1.2.1 d (k H locs ls hP hS hl)
theorem v_ishl {Γ : Cxt} {own : String} {cc : ByteArray} {n : Nat} {rm : Room} {pc : Nat} {lv : List (Nat × Value)} {st : List Value} {X : XT} {Y : YT} {x y : Int32} (O : Ok Γ own cc n rm) (d : decode cc pc = .ok (.ishl, 1))  (k : V Γ (pc + 1) lv (.int (x <<< (y &&& 31)) :: st) X Y) : V Γ pc lv (.int y :: .int x :: st) X Y := by
  obtain ⟨⟨p, l, e, R, s, m⟩, ⟨args, below, meth, c⟩, ⟨D, cI, cL, ad⟩, ⟨nL, k0, n0⟩, Qf⟩ := Γ
  exact fun H locs ls hP hS hl => lv_ishl O.1.1 O.1.2.1 d (k H locs ls hP hS hl)
theorem v_ishr {Γ : Cxt} {own : String} {cc : ByteArray} {n : Nat} {rm : Room} {pc : Nat} {lv : List (Nat × Value)} {st : List Value} {X : XT} {Y : YT} {x y : Int32} (O : Ok Γ own cc n rm) (d : decode cc pc = .ok (.ishr, 1))  (k : V Γ (pc + 1) lv (.int (x >>> (y &&& 31)) :: st) X Y) : V Γ pc lv (.int y :: .int x :: st) X Y := by
  obtain ⟨⟨p, l, e, R, s, m⟩, ⟨args, below, meth, c⟩, ⟨D, cI, cL, ad⟩, ⟨nL, k0, n0⟩, Qf⟩ := Γ
  exact fun H locs ls hP hS hl => lv_ishr O.1.1 O.1.2.1 d (k H locs ls hP hS hl)
theorem v_idiv {Γ : Cxt} {own : String} {cc : ByteArray} {n : Nat} {rm : Room} {pc : Nat} {lv : List (Nat × Value)} {st : List Value} {X : XT} {Y : YT} {x y : Int32} (O : Ok Γ own cc n rm) (d : decode cc pc = .ok (.idiv, 1)) (hne : ¬ y = 0) (k : V Γ (pc + 1) lv (.int (x / y) :: st) X Y) : V Γ pc lv (.int y :: .int x :: st) X Y := by
  obtain ⟨⟨p, l, e, R, s, m⟩, ⟨args, below, meth, c⟩, ⟨D, cI, cL, ad⟩, ⟨nL, k0, n0⟩, Qf⟩ := Γ
  exact fun H locs ls hP hS hl => lv_idiv O.1.1 O.1.2.1 d hne (k H locs ls hP hS hl)
theorem v_iushr {Γ : Cxt} {own : String} {cc : ByteArray} {n : Nat} {rm : Room} {pc : Nat} {lv : List (Nat × Value)} {st : List Value} {X : XT} {Y : YT} {x y : Int32} (O : Ok Γ own cc n rm) (d : decode cc pc = .ok (.iushr, 1))  (k : V Γ (pc + 1) lv (.int ((x.toUInt32 >>> (y.toUInt32 &&& Int32.toUInt32 31)).toInt32) :: st) X Y) : V Γ pc lv (.int y :: .int x :: st) X Y := by
  obtain ⟨⟨p, l, e, R, s, m⟩, ⟨args, below, meth, c⟩, ⟨D, cI, cL, ad⟩, ⟨nL, k0, n0⟩, Qf⟩ := Γ
  exact fun H locs ls hP hS hl => lv_iushr O.1.1 O.1.2.1 d rfl (k H locs ls hP hS hl)
theorem v_ladd {Γ : Cxt} {own : String} {cc : ByteArray} {n : Nat} {rm : Room} {pc : Nat} {lv : List (Nat × Value)} {st : List Value} {X : XT} {Y : YT} {x y : Int64} (O : Ok Γ own cc n rm) (d : decode cc pc = .ok (.ladd, 1))  (k : V Γ (pc + 1) lv (.long (x + y) :: st) X Y) : V Γ pc lv (.long y :: .long x :: st) X Y := by
  obtain ⟨⟨p, l, e, R, s, m⟩, ⟨args, below, meth, c⟩, ⟨D, cI, cL, ad⟩, ⟨nL, k0, n0⟩, Qf⟩ := Γ
  exact fun H locs ls hP hS hl => lv_ladd O.1.1 O.1.2.1 d (k H locs ls hP hS hl)
theorem v_lmul {Γ : Cxt} {own : String} {cc : ByteArray} {n : Nat} {rm : Room} {pc : Nat} {lv : List (Nat × Value)} {st : List Value} {X : XT} {Y : YT} {x y : Int64} (O : Ok Γ own cc n rm) (d : decode cc pc = .ok (.lmul, 1))  (k : V Γ (pc + 1) lv (.long (x * y) :: st) X Y) : V Γ pc lv (.long y :: .long x :: st) X Y := by
  obtain ⟨⟨p, l, e, R, s, m⟩, ⟨args, below, meth, c⟩, ⟨D, cI, cL, ad⟩, ⟨nL, k0, n0⟩, Qf⟩ := Γ
  exact fun H locs ls hP hS hl => lv_lmul O.1.1 O.1.2.1 d (k H locs ls hP hS hl)
theorem v_land {Γ : Cxt} {own : String} {cc : ByteArray} {n : Nat} {rm : Room} {pc : Nat} {lv : List (Nat × Value)} {st : List Value} {X : XT} {Y : YT} {x y : Int64} (O : Ok Γ own cc n rm) (d : decode cc pc = .ok (.land, 1))  (k : V Γ (pc + 1) lv (.long (x &&& y) :: st) X Y) : V Γ pc lv (.long y :: .long x :: st) X Y := by
  obtain ⟨⟨p, l, e, R, s, m⟩, ⟨args, below, meth, c⟩, ⟨D, cI, cL, ad⟩, ⟨nL, k0, n0⟩, Qf⟩ := Γ
  exact fun H locs ls hP hS hl => lv_land O.1.1 O.1.2.1 d (k H locs ls hP hS hl)
theorem v_lor {Γ : Cxt} {own : String} {cc : ByteArray} {n : Nat} {rm : Room} {pc : Nat} {lv : List (Nat × Value)} {st : List Value} {X : XT} {Y : YT} {x y : Int64} (O : Ok Γ own cc n rm) (d : decode cc pc = .ok (.lor, 1))  (k : V Γ (pc + 1) lv (.long (x ||| y) :: st) X Y) : V Γ pc lv (.long y :: .long x :: st) X Y := by
  obtain ⟨⟨p, l, e, R, s, m⟩, ⟨args, below, meth, c⟩, ⟨D, cI, cL, ad⟩, ⟨nL, k0, n0⟩, Qf⟩ := Γ
  exact fun H locs ls hP hS hl => lv_lor O.1.1 O.1.2.1 d (k H locs ls hP hS hl)
theorem v_ldiv {Γ : Cxt} {own : String} {cc : ByteArray} {n : Nat} {rm : Room} {pc : Nat} {lv : List (Nat × Value)} {st : List Value} {X : XT} {Y : YT} {x y : Int64} (O : Ok Γ own cc n rm) (d : decode cc pc = .ok (.ldiv, 1)) (hne : ¬ y = 0) (k : V Γ (pc + 1) lv (.long (x / y) :: st) X Y) : V Γ pc lv (.long y :: .long x :: st) X Y := by
  obtain ⟨⟨p, l, e, R, s, m⟩, ⟨args, below, meth, c⟩, ⟨D, cI, cL, ad⟩, ⟨nL, k0, n0⟩, Qf⟩ := Γ
  exact fun H locs ls hP hS hl => lv_ldiv O.1.1 O.1.2.1 d hne (k H locs ls hP hS hl)
theorem v_lrem {Γ : Cxt} {own : String} {cc : ByteArray} {n : Nat} {rm : Room} {pc : Nat} {lv : List (Nat × Value)} {st : List Value} {X : XT} {Y : YT} {x y : Int64} (O : Ok Γ own cc n rm) (d : decode cc pc = .ok (.lrem, 1)) (hne : ¬ y = 0) (k : V Γ (pc + 1) lv (.long (x - (x / y) * y) :: st) X Y) : V Γ pc lv (.long y :: .long x :: st) X Y := by
  obtain ⟨⟨p, l, e, R, s, m⟩, ⟨args, below, meth, c⟩, ⟨D, cI, cL, ad⟩, ⟨nL, k0, n0⟩, Qf⟩ := Γ
  exact fun H locs ls hP hS hl => lv_lrem O.1.1 O.1.2.1 d hne (k H locs ls hP hS hl)
theorem v_lshl {Γ : Cxt} {own : String} {cc : ByteArray} {n : Nat} {rm : Room} {pc : Nat} {lv : List (Nat × Value)} {st : List Value} {X : XT} {Y : YT} {x : Int64} {y : Int32} (O : Ok Γ own cc n rm) (d : decode cc pc = .ok (.lshl, 1))  (k : V Γ (pc + 1) lv (.long (x <<< (y.toInt64 &&& 63)) :: st) X Y) : V Γ pc lv (.int y :: .long x :: st) X Y := by
  obtain ⟨⟨p, l, e, R, s, m⟩, ⟨args, below, meth, c⟩, ⟨D, cI, cL, ad⟩, ⟨nL, k0, n0⟩, Qf⟩ := Γ
  exact fun H locs ls hP hS hl => lv_lshl O.1.1 O.1.2.1 d rfl (k H locs ls hP hS hl)
theorem v_lshr {Γ : Cxt} {own : String} {cc : ByteArray} {n : Nat} {rm : Room} {pc : Nat} {lv : List (Nat × Value)} {st : List Value} {X : XT} {Y : YT} {x : Int64} {y : Int32} (O : Ok Γ own cc n rm) (d : decode cc pc = .ok (.lshr, 1))  (k : V Γ (pc + 1) lv (.long (x >>> (y.toInt64 &&& 63)) :: st) X Y) : V Γ pc lv (.int y :: .long x :: st) X Y := by
  obtain ⟨⟨p, l, e, R, s, m⟩, ⟨args, below, meth, c⟩, ⟨D, cI, cL, ad⟩, ⟨nL, k0, n0⟩, Qf⟩ := Γ
  exact fun H locs ls hP hS hl => lv_lshr O.1.1 O.1.2.1 d rfl (k H locs ls hP hS hl)
theorem v_lushr {Γ : Cxt} {own : String} {cc : ByteArray} {n : Nat} {rm : Room} {pc : Nat} {lv : List (Nat × Value)} {st : List Value} {X : XT} {Y : YT} {x : Int64} {y : Int32} (O : Ok Γ own cc n rm) (d : decode cc pc = .ok (.lushr, 1))  (k : V Γ (pc + 1) lv (.long ((x.toUInt64 >>> (y.toInt64.toUInt64 &&& Int64.toUInt64 63)).toInt64) :: st) X Y) : V Γ pc lv (.int y :: .long x :: st) X Y := by
  obtain ⟨⟨p, l, e, R, s, m⟩, ⟨args, below, meth, c⟩, ⟨D, cI, cL, ad⟩, ⟨nL, k0, n0⟩, Qf⟩ := Γ
  exact fun H locs ls hP hS hl => lv_lushr O.1.1 O.1.2.1 d rfl (k H locs ls hP hS hl)
theorem v_i2l {Γ : Cxt} {own : String} {cc : ByteArray} {n : Nat} {rm : Room} {pc : Nat} {lv : List (Nat × Value)} {st : List Value} {X : XT} {Y : YT} {x : Int32} (O : Ok Γ own cc n rm) (d : decode cc pc = .ok (.i2l, 1))  (k : V Γ (pc + 1) lv (.long x.toInt64 :: st) X Y) : V Γ pc lv (.int x :: st) X Y := by
  obtain ⟨⟨p, l, e, R, s, m⟩, ⟨args, below, meth, c⟩, ⟨D, cI, cL, ad⟩, ⟨nL, k0, n0⟩, Qf⟩ := Γ
  exact fun H locs ls hP hS hl => lv_i2l O.1.1 O.1.2.1 d rfl (k H locs ls hP hS hl)
theorem v_l2i {Γ : Cxt} {own : String} {cc : ByteArray} {n : Nat} {rm : Room} {pc : Nat} {lv : List (Nat × Value)} {st : List Value} {X : XT} {Y : YT} {x : Int64} (O : Ok Γ own cc n rm) (d : decode cc pc = .ok (.l2i, 1))  (k : V Γ (pc + 1) lv (.int x.toInt32 :: st) X Y) : V Γ pc lv (.long x :: st) X Y := by
  obtain ⟨⟨p, l, e, R, s, m⟩, ⟨args, below, meth, c⟩, ⟨D, cI, cL, ad⟩, ⟨nL, k0, n0⟩, Qf⟩ := Γ
  exact fun H locs ls hP hS hl => lv_l2i O.1.1 O.1.2.1 d rfl (k H locs ls hP hS hl)
theorem v_i2c {Γ : Cxt} {own : String} {cc : ByteArray} {n : Nat} {rm : Room} {pc : Nat} {lv : List (Nat × Value)} {st : List Value} {X : XT} {Y : YT} {x : Int32} (O : Ok Γ own cc n rm) (d : decode cc pc = .ok (.i2c, 1))  (k : V Γ (pc + 1) lv (.int ((x.toUInt32 % 65536).toInt32) :: st) X Y) : V Γ pc lv (.int x :: st) X Y := by
  obtain ⟨⟨p, l, e, R, s, m⟩, ⟨args, below, meth, c⟩, ⟨D, cI, cL, ad⟩, ⟨nL, k0, n0⟩, Qf⟩ := Γ
  exact fun H locs ls hP hS hl => lv_i2c O.1.1 O.1.2.1 d rfl (k H locs ls hP hS hl)
theorem v_lcmp {Γ : Cxt} {own : String} {cc : ByteArray} {n : Nat} {rm : Room} {pc : Nat} {lv : List (Nat × Value)} {st : List Value} {X : XT} {Y : YT} {x y : Int64} (O : Ok Γ own cc n rm) (d : decode cc pc = .ok (.lcmp, 1))  (k : V Γ (pc + 1) lv (.int (lg_cmp x y) :: st) X Y) : V Γ pc lv (.long y :: .long x :: st) X Y := by
  obtain ⟨⟨p, l, e, R, s, m⟩, ⟨args, below, meth, c⟩, ⟨D, cI, cL, ad⟩, ⟨nL, k0, n0⟩, Qf⟩ := Γ
  exact fun H locs ls hP hS hl => W.lcmp O.1.1 O.1.2.1 d (k H locs ls hP hS hl)
theorem v_dup {Γ : Cxt} {own : String} {cc : ByteArray} {n : Nat} {rm : Room} {pc : Nat} {lv : List (Nat × Value)} {st : List Value} {X : XT} {Y : YT} {v : Value} (O : Ok Γ own cc n rm) (d : decode cc pc = .ok (.dup, 1)) (hc : v.category = 1) (k : V Γ (pc + 1) lv (v :: v :: st) X Y) : V Γ pc lv (v :: st) X Y := by
  obtain ⟨⟨p, l, e, R, s, m⟩, ⟨args, below, meth, c⟩, ⟨D, cI, cL, ad⟩, ⟨nL, k0, n0⟩, Qf⟩ := Γ
  exact fun H locs ls hP hS hl => lv_dup O.1.1 O.1.2.1 d ((tv_cat ad v).trans hc) (k H locs ls hP hS hl)
theorem v_pop {Γ : Cxt} {own : String} {cc : ByteArray} {n : Nat} {rm : Room} {pc : Nat} {lv : List (Nat × Value)} {st : List Value} {X : XT} {Y : YT} {v : Value} (O : Ok Γ own cc n rm) (d : decode cc pc = .ok (.pop, 1)) (hc : v.category = 1) (k : V Γ (pc + 1) lv (st) X Y) : V Γ pc lv (v :: st) X Y := by
  obtain ⟨⟨p, l, e, R, s, m⟩, ⟨args, below, meth, c⟩, ⟨D, cI, cL, ad⟩, ⟨nL, k0, n0⟩, Qf⟩ := Γ
  exact fun H locs ls hP hS hl => lv_pop O.1.1 O.1.2.1 d ((tv_cat ad v).trans hc) (k H locs ls hP hS hl)
theorem v_dup2 {Γ : Cxt} {own : String} {cc : ByteArray} {n : Nat} {rm : Room} {pc : Nat} {lv : List (Nat × Value)} {st : List Value} {X : XT} {Y : YT} {v w : Value} (O : Ok Γ own cc n rm) (d : decode cc pc = .ok (.dup2, 1)) (hc : v.category = 1) (hd : w.category = 1) (k : V Γ (pc + 1) lv (v :: w :: v :: w :: st) X Y) : V Γ pc lv (v :: w :: st) X Y := by
  obtain ⟨⟨p, l, e, R, s, m⟩, ⟨args, below, meth, c⟩, ⟨D, cI, cL, ad⟩, ⟨nL, k0, n0⟩, Qf⟩ := Γ
  exact fun H locs ls hP hS hl => lv_dup2_11 O.1.1 O.1.2.1 d ((tv_cat ad v).trans hc) ((tv_cat ad w).trans hd) (k H locs ls hP hS hl)
theorem v_if_eq {Γ : Cxt} {own : String} {cc : ByteArray} {n : Nat} {rm : Room} {pc : Nat} {lv : List (Nat × Value)} {st : List Value} {X : XT} {Y : YT} {x : Int32} {off : Int} {tgt : Nat} (O : Ok Γ own cc n rm) (d : decode cc pc = .ok (.ifCond .eq off, 3)) (ht : (pc : Int) + off = (tgt : Int)) (kt : x = 0 → V Γ tgt lv st X Y) (kf : ¬ x = 0 → V Γ (pc + 3) lv st X Y) : V Γ pc lv (.int x :: st) X Y := by
  obtain ⟨⟨p, l, e, R, s, m⟩, ⟨args, below, meth, c⟩, ⟨D, cI, cL, ad⟩, ⟨nL, k0, n0⟩, Qf⟩ := Γ
  exact fun H locs ls hP hS hl => lv_if_eq O.1.1 O.1.2.1 d ht (fun h => kt h H locs ls hP hS hl) (fun h => kf h H locs ls hP hS hl)
theorem v_if_ne {Γ : Cxt} {own : String} {cc : ByteArray} {n : Nat} {rm : Room} {pc : Nat} {lv : List (Nat × Value)} {st : List Value} {X : XT} {Y : YT} {x : Int32} {off : Int} {tgt : Nat} (O : Ok Γ own cc n rm) (d : decode cc pc = .ok (.ifCond .ne off, 3)) (ht : (pc : Int) + off = (tgt : Int)) (kt : ¬ x = 0 → V Γ tgt lv st X Y) (kf : x = 0 → V Γ (pc + 3) lv st X Y) : V Γ pc lv (.int x :: st) X Y := by
  obtain ⟨⟨p, l, e, R, s, m⟩, ⟨args, below, meth, c⟩, ⟨D, cI, cL, ad⟩, ⟨nL, k0, n0⟩, Qf⟩ := Γ
  exact fun H locs ls hP hS hl => lv_if_ne O.1.1 O.1.2.1 d ht (fun h => kt h H locs ls hP hS hl) (fun h => kf h H locs ls hP hS hl)
theorem v_if_lt {Γ : Cxt} {own : String} {cc : ByteArray} {n : Nat} {rm : Room} {pc : Nat} {lv : List (Nat × Value)} {st : List Value} {X : XT} {Y : YT} {x : Int32} {off : Int} {tgt : Nat} (O : Ok Γ own cc n rm) (d : decode cc pc = .ok (.ifCond .lt off, 3)) (ht : (pc : Int) + off = (tgt : Int)) (kt : x < 0 → V Γ tgt lv st X Y) (kf : ¬ x < 0 → V Γ (pc + 3) lv st X Y) : V Γ pc lv (.int x :: st) X Y := by
  obtain ⟨⟨p, l, e, R, s, m⟩, ⟨args, below, meth, c⟩, ⟨D, cI, cL, ad⟩, ⟨nL, k0, n0⟩, Qf⟩ := Γ
  exact fun H locs ls hP hS hl => lv_if_lt O.1.1 O.1.2.1 d ht (fun h => kt h H locs ls hP hS hl) (fun h => kf h H locs ls hP hS hl)
theorem v_if_ge {Γ : Cxt} {own : String} {cc : ByteArray} {n : Nat} {rm : Room} {pc : Nat} {lv : List (Nat × Value)} {st : List Value} {X : XT} {Y : YT} {x : Int32} {off : Int} {tgt : Nat} (O : Ok Γ own cc n rm) (d : decode cc pc = .ok (.ifCond .ge off, 3)) (ht : (pc : Int) + off = (tgt : Int)) (kt : 0 ≤ x → V Γ tgt lv st X Y) (kf : ¬ 0 ≤ x → V Γ (pc + 3) lv st X Y) : V Γ pc lv (.int x :: st) X Y := by
  obtain ⟨⟨p, l, e, R, s, m⟩, ⟨args, below, meth, c⟩, ⟨D, cI, cL, ad⟩, ⟨nL, k0, n0⟩, Qf⟩ := Γ
  exact fun H locs ls hP hS hl => lv_if_ge O.1.1 O.1.2.1 d ht (fun h => kt h H locs ls hP hS hl) (fun h => kf h H locs ls hP hS hl)
theorem v_if_gt {Γ : Cxt} {own : String} {cc : ByteArray} {n : Nat} {rm : Room} {pc : Nat} {lv : List (Nat × Value)} {st : List Value} {X : XT} {Y : YT} {x : Int32} {off : Int} {tgt : Nat} (O : Ok Γ own cc n rm) (d : decode cc pc = .ok (.ifCond .gt off, 3)) (ht : (pc : Int) + off = (tgt : Int)) (kt : 0 < x → V Γ tgt lv st X Y) (kf : ¬ 0 < x → V Γ (pc + 3) lv st X Y) : V Γ pc lv (.int x :: st) X Y := by
  obtain ⟨⟨p, l, e, R, s, m⟩, ⟨args, below, meth, c⟩, ⟨D, cI, cL, ad⟩, ⟨nL, k0, n0⟩, Qf⟩ := Γ
  exact fun H locs ls hP hS hl => lv_if_gt O.1.1 O.1.2.1 d ht (fun h => kt h H locs ls hP hS hl) (fun h => kf h H locs ls hP hS hl)
theorem v_if_le {Γ : Cxt} {own : String} {cc : ByteArray} {n : Nat} {rm : Room} {pc : Nat} {lv : List (Nat × Value)} {st : List Value} {X : XT} {Y : YT} {x : Int32} {off : Int} {tgt : Nat} (O : Ok Γ own cc n rm) (d : decode cc pc = .ok (.ifCond .le off, 3)) (ht : (pc : Int) + off = (tgt : Int)) (kt : x ≤ 0 → V Γ tgt lv st X Y) (kf : ¬ x ≤ 0 → V Γ (pc + 3) lv st X Y) : V Γ pc lv (.int x :: st) X Y := by
  obtain ⟨⟨p, l, e, R, s, m⟩, ⟨args, below, meth, c⟩, ⟨D, cI, cL, ad⟩, ⟨nL, k0, n0⟩, Qf⟩ := Γ
  exact fun H locs ls hP hS hl => lv_if_le O.1.1 O.1.2.1 d ht (fun h => kt h H locs ls hP hS hl) (fun h => kf h H locs ls hP hS hl)
theorem v_icmp_eq {Γ : Cxt} {own : String} {cc : ByteArray} {n : Nat} {rm : Room} {pc : Nat} {lv : List (Nat × Value)} {st : List Value} {X : XT} {Y : YT} {x y : Int32} {off : Int} {tgt : Nat} (O : Ok Γ own cc n rm) (d : decode cc pc = .ok (.if_icmp .eq off, 3)) (ht : (pc : Int) + off = (tgt : Int)) (kt : x = y → V Γ tgt lv st X Y) (kf : ¬ x = y → V Γ (pc + 3) lv st X Y) : V Γ pc lv (.int y :: .int x :: st) X Y := by
  obtain ⟨⟨p, l, e, R, s, m⟩, ⟨args, below, meth, c⟩, ⟨D, cI, cL, ad⟩, ⟨nL, k0, n0⟩, Qf⟩ := Γ
  exact fun H locs ls hP hS hl => lv_icmp_eq O.1.1 O.1.2.1 d ht (fun h => kt h H locs ls hP hS hl) (fun h => kf h H locs ls hP hS hl)
theorem v_icmp_ne {Γ : Cxt} {own : String} {cc : ByteArray} {n : Nat} {rm : Room} {pc : Nat} {lv : List (Nat × Value)} {st : List Value} {X : XT} {Y : YT} {x y : Int32} {off : Int} {tgt : Nat} (O : Ok Γ own cc n rm) (d : decode cc pc = .ok (.if_icmp .ne off, 3)) (ht : (pc : Int) + off = (tgt : Int)) (kt : ¬ x = y → V Γ tgt lv st X Y) (kf : x = y → V Γ (pc + 3) lv st X Y) : V Γ pc lv (.int y :: .int x :: st) X Y := by
  obtain ⟨⟨p, l, e, R, s, m⟩, ⟨args, below, meth, c⟩, ⟨D, cI, cL, ad⟩, ⟨nL, k0, n0⟩, Qf⟩ := Γ
  exact fun H locs ls hP hS hl => lv_icmp_ne O.1.1 O.1.2.1 d ht (fun h => kt h H locs ls hP hS hl) (fun h => kf h H locs ls hP hS hl)
theorem v_icmp_lt {Γ : Cxt} {own : String} {cc : ByteArray} {n : Nat} {rm : Room} {pc : Nat} {lv : List (Nat × Value)} {st : List Value} {X : XT} {Y : YT} {x y : Int32} {off : Int} {tgt : Nat} (O : Ok Γ own cc n rm) (d : decode cc pc = .ok (.if_icmp .lt off, 3)) (ht : (pc : Int) + off = (tgt : Int)) (kt : x < y → V Γ tgt lv st X Y) (kf : ¬ x < y → V Γ (pc + 3) lv st X Y) : V Γ pc lv (.int y :: .int x :: st) X Y := by
  obtain ⟨⟨p, l, e, R, s, m⟩, ⟨args, below, meth, c⟩, ⟨D, cI, cL, ad⟩, ⟨nL, k0, n0⟩, Qf⟩ := Γ
  exact fun H locs ls hP hS hl => lv_icmp_lt O.1.1 O.1.2.1 d ht (fun h => kt h H locs ls hP hS hl) (fun h => kf h H locs ls hP hS hl)
theorem v_icmp_ge {Γ : Cxt} {own : String} {cc : ByteArray} {n : Nat} {rm : Room} {pc : Nat} {lv : List (Nat × Value)} {st : List Value} {X : XT} {Y : YT} {x y : Int32} {off : Int} {tgt : Nat} (O : Ok Γ own cc n rm) (d : decode cc pc = .ok (.if_icmp .ge off, 3)) (ht : (pc : Int) + off = (tgt : Int)) (kt : y ≤ x → V Γ tgt lv st X Y) (kf : ¬ y ≤ x → V Γ (pc + 3) lv st X Y) : V Γ pc lv (.int y :: .int x :: st) X Y := by
  obtain ⟨⟨p, l, e, R, s, m⟩, ⟨args, below, meth, c⟩, ⟨D, cI, cL, ad⟩, ⟨nL, k0, n0⟩, Qf⟩ := Γ
  exact fun H locs ls hP hS hl => lv_icmp_ge O.1.1 O.1.2.1 d ht (fun h => kt h H locs ls hP hS hl) (fun h => kf h H locs ls hP hS hl)
theorem v_icmp_gt {Γ : Cxt} {own : String} {cc : ByteArray} {n : Nat} {rm : Room} {pc : Nat} {lv : List (Nat × Value)} {st : List Value} {X : XT} {Y : YT} {x y : Int32} {off : Int} {tgt : Nat} (O : Ok Γ own cc n rm) (d : decode cc pc = .ok (.if_icmp .gt off, 3)) (ht : (pc : Int) + off = (tgt : Int)) (kt : y < x → V Γ tgt lv st X Y) (kf : ¬ y < x → V Γ (pc + 3) lv st X Y) : V Γ pc lv (.int y :: .int x :: st) X Y := by
  obtain ⟨⟨p, l, e, R, s, m⟩, ⟨args, below, meth, c⟩, ⟨D, cI, cL, ad⟩, ⟨nL, k0, n0⟩, Qf⟩ := Γ
  exact fun H locs ls hP hS hl => lv_icmp_gt O.1.1 O.1.2.1 d ht (fun h => kt h H locs ls hP hS hl) (fun h => kf h H locs ls hP hS hl)
theorem v_icmp_le {Γ : Cxt} {own : String} {cc : ByteArray} {n : Nat} {rm : Room} {pc : Nat} {lv : List (Nat × Value)} {st : List Value} {X : XT} {Y : YT} {x y : Int32} {off : Int} {tgt : Nat} (O : Ok Γ own cc n rm) (d : decode cc pc = .ok (.if_icmp .le off, 3)) (ht : (pc : Int) + off = (tgt : Int)) (kt : x ≤ y → V Γ tgt lv st X Y) (kf : ¬ x ≤ y → V Γ (pc + 3) lv st X Y) : V Γ pc lv (.int y :: .int x :: st) X Y := by
  obtain ⟨⟨p, l, e, R, s, m⟩, ⟨args, below, meth, c⟩, ⟨D, cI, cL, ad⟩, ⟨nL, k0, n0⟩, Qf⟩ := Γ
  exact fun H locs ls hP hS hl => lv_icmp_le O.1.1 O.1.2.1 d ht (fun h => kt h H locs ls hP hS hl) (fun h => kf h H locs ls hP hS hl)
theorem v_goto {Γ : Cxt} {own : String} {cc : ByteArray} {n : Nat} {rm : Room} {pc : Nat} {lv : List (Nat × Value)} {st : List Value} {X : XT} {Y : YT} {off : Int} {tgt : Nat} (O : Ok Γ own cc n rm) (d : decode cc pc = .ok (.goto off, 3)) (ht : (pc : Int) + off = (tgt : Int)) (k : V Γ tgt lv st X Y) : V Γ pc lv st X Y := by
  obtain ⟨⟨p, l, e, R, s, m⟩, ⟨args, below, meth, c⟩, ⟨D, cI, cL, ad⟩, ⟨nL, k0, n0⟩, Qf⟩ := Γ
  exact fun H locs ls hP hS hl => lv_goto O.1.1 O.1.2.1 d ht (k H locs ls hP hS hl)
theorem v_tsw {Γ : Cxt} {own : String} {cc : ByteArray} {n : Nat} {rm : Room} {pc : Nat} {lv : List (Nat × Value)} {st : List Value} {X : XT} {Y : YT} {dflt hi : Int} {offs : Array Int} {len : Nat} {x : Int32} {tg : List Nat} {dt : Nat} (O : Ok Γ own cc n rm) (d : decode cc pc = .ok (.tableswitch dflt 0 hi offs, len)) (ht : offs.toList.map (fun o => (pc : Int) + o) = tg.map (fun t : Nat => (t : Int))) (hh : hi + 1 = tg.length) (hm : tg.length < 1000) (hdt : (pc : Int) + dflt = (dt : Int)) (kd : x.toInt < 0 ∨ hi < x.toInt → V Γ dt lv st X Y) (kt : ∀ j t, tg[j]? = some t → x = nI j → V Γ t lv st X Y) : V Γ pc lv (.int x :: st) X Y := by
  obtain ⟨⟨p, l, e, R, s, m⟩, ⟨args, below, meth, c⟩, ⟨D, cI, cL, ad⟩, ⟨nL, k0, n0⟩, Qf⟩ := Γ
  intro H locs ls hP hS hl
  by_cases h1 : x.toInt < 0
  · exact lv_tableOut O.1.1 O.1.2.1 d (Or.inl h1) hdt (kd (Or.inl h1) H locs ls hP hS hl)
  by_cases h2 : hi < x.toInt
  · exact lv_tableOut O.1.1 O.1.2.1 d (Or.inr h2) hdt (kd (Or.inr h2) H locs ls hP hS hl)
  have hlt : x.toInt.toNat < tg.length := by omega
  have hlo : offs.toList.length = tg.length := by have := congrArg List.length ht; simpa using this
  obtain ⟨t, hj⟩ : ∃ t, tg[x.toInt.toNat]? = some t := ⟨_, List.getElem?_eq_getElem hlt⟩
  obtain ⟨o, ho⟩ : ∃ o, offs.toList[x.toInt.toNat]? = some o := ⟨_, List.getElem?_eq_getElem (by omega)⟩
  have he : (pc : Int) + o = (t : Int) := by
    have h3 := congrArg (fun z => z[x.toInt.toNat]?) ht
    simp only [List.getElem?_map, ho, hj, Option.map_some, Option.some.injEq] at h3
    exact h3
  have hx : x = nI x.toInt.toNat := by
    apply Int32.toInt_inj.mp
    rw [nI_toInt (by omega)]
    omega
  refine lv_tableIn O.1.1 O.1.2.1 d h1 h2 (off := o) ?_ he (kt _ t hj hx H locs ls hP hS hl)
  rw [← Array.getElem?_toList]
  rw [show (x.toInt - 0) = x.toInt by omega]
  exact ho
theorem v_topi {Γ : Cxt} {pc : Nat} {lv : List (Nat × Value)} {st : List Value} {X : XT} {Y : YT} {x : Int32} (k : ∀ y : Int32, y = x → V Γ pc lv (.int y :: st) X Y) : V Γ pc lv (.int x :: st) X Y := k x rfl
theorem v_nmX {Γ : Cxt} {pc : Nat} {lv : List (Nat × Value)} {st : List Value} {X : XT} {Y : YT} (k : ∀ X' : XT, X' = X → V Γ pc lv st X' Y) : V Γ pc lv st X Y := k X rfl
theorem v_nmY {Γ : Cxt} {pc : Nat} {lv : List (Nat × Value)} {st : List Value} {X : XT} {Y : YT} (k : ∀ Y' : YT, Y' = Y → V Γ pc lv st X Y') : V Γ pc lv st X Y := k Y rfl
theorem v_topl {Γ : Cxt} {pc : Nat} {lv : List (Nat × Value)} {st : List Value} {X : XT} {Y : YT} {x : Int64} (k : ∀ y : Int64, y = x → V Γ pc lv (.long y :: st) X Y) : V Γ pc lv (.long x :: st) X Y := k x rfl
theorem v_loc {Γ : Cxt} {pc : Nat} {lv : List (Nat × Value)} {st : List Value} {X : XT} {Y : YT} {lv' : List (Nat × Value)} (ks : List Nat) (he : lv_pick lv ks = lv') (k : V Γ pc lv' st X Y) : V Γ pc lv st X Y := by
  obtain ⟨⟨p, l, e, R, s, m⟩, ⟨args, below, meth, c⟩, ⟨D, cI, cL, ad⟩, ⟨nL, k0, n0⟩, Qf⟩ := Γ
  refine fun H locs ls hP hS hl => k H locs ls hP hS (lv_sub hl ks ?_)
  rw [← he]
  simp only [lv_pick, tl, List.map_filterMap, List.getElem?_map]
theorem v_iald {Γ : Cxt} {own : String} {cc : ByteArray} {n : Nat} {rm : Room} {pc : Nat} {lv : List (Nat × Value)} {st : List Value} {X : XT} {Y : YT} {q a : Nat} {i : Int32} (O : Ok Γ own cc n rm) (d : decode cc pc = .ok (.iaload, 1)) (hz : shp[q]? = some (.inr (a, 0))) (hi : vp_in i a) (k : V Γ (pc + 1) lv (.int (X q i.toNatClampNeg) :: st) X Y) : V Γ pc lv (.int i :: .ref q :: st) X Y := by
  obtain ⟨⟨p, l, e, R, s, m⟩, ⟨args, below, meth, c⟩, ⟨D, cI, cL, ad⟩, ⟨nL, k0, n0⟩, Qf⟩ := Γ
  exact fun H locs ls hP hS hl => va_iald O.1.1 O.1.2.1 O.2.2.1.1 hP q 0 (wld_at hz) rfl hi d (k H locs ls hP hS hl)
theorem v_lald {Γ : Cxt} {own : String} {cc : ByteArray} {n : Nat} {rm : Room} {pc : Nat} {lv : List (Nat × Value)} {st : List Value} {X : XT} {Y : YT} {q a : Nat} {i : Int32} (O : Ok Γ own cc n rm) (d : decode cc pc = .ok (.laload, 1)) (hz : shp[q]? = some (.inr (a, 1))) (hi : vp_in i a) (k : V Γ (pc + 1) lv (.long (Y q i.toNatClampNeg) :: st) X Y) : V Γ pc lv (.int i :: .ref q :: st) X Y := by
  obtain ⟨⟨p, l, e, R, s, m⟩, ⟨args, below, meth, c⟩, ⟨D, cI, cL, ad⟩, ⟨nL, k0, n0⟩, Qf⟩ := Γ
  exact fun H locs ls hP hS hl => va_lald O.1.1 O.1.2.1 O.2.2.1.1 hP q 1 (wld_at hz) rfl hi d (k H locs ls hP hS hl)
theorem v_iast {Γ : Cxt} {own : String} {cc : ByteArray} {n : Nat} {rm : Room} {pc : Nat} {lv : List (Nat × Value)} {st : List Value} {X : XT} {Y : YT} {q a : Nat} {i x : Int32} (O : Ok Γ own cc n rm) (d : decode cc pc = .ok (.iastore, 1)) (hz : shp[q]? = some (.inr (a, 0))) (hi : vp_in i a) (k : V Γ (pc + 1) lv st (sX X q i.toNatClampNeg x) Y) : V Γ pc lv (.int x :: .int i :: .ref q :: st) X Y := by
  obtain ⟨⟨p, l, e, R, s, m⟩, ⟨args, below, meth, c⟩, ⟨D, cI, cL, ad⟩, ⟨nL, k0, n0⟩, Qf⟩ := Γ
  exact fun H locs ls hP hS hl => va_iast O.1.1 O.1.2.1 O.2.2.1.1 hP (wD O.2.2.1.2.2.2 X Y) hS q 0 (wld_at hz) rfl hi d (fun H1 locs1 hP1 _ hS1 => k H1 locs1 ls (wA_setA hz hP1) hS1 hl)
theorem v_last {Γ : Cxt} {own : String} {cc : ByteArray} {n : Nat} {rm : Room} {pc : Nat} {lv : List (Nat × Value)} {st : List Value} {X : XT} {Y : YT} {q a : Nat} {i : Int32} {x : Int64} (O : Ok Γ own cc n rm) (d : decode cc pc = .ok (.lastore, 1)) (hz : shp[q]? = some (.inr (a, 1))) (hi : vp_in i a) (k : V Γ (pc + 1) lv st X (sY Y q i.toNatClampNeg x)) : V Γ pc lv (.long x :: .int i :: .ref q :: st) X Y := by
  obtain ⟨⟨p, l, e, R, s, m⟩, ⟨args, below, meth, c⟩, ⟨D, cI, cL, ad⟩, ⟨nL, k0, n0⟩, Qf⟩ := Γ
  exact fun H locs ls hP hS hl => va_last O.1.1 O.1.2.1 O.2.2.1.1 hP (wD O.2.2.1.2.2.2 X Y) hS q 1 (wld_at hz) rfl hi d (fun H1 locs1 hP1 _ hS1 => k H1 locs1 ls (wA_setAL hz hP1) hS1 hl)
theorem v_alen {Γ : Cxt} {own : String} {cc : ByteArray} {n : Nat} {rm : Room} {pc : Nat} {lv : List (Nat × Value)} {st : List Value} {X : XT} {Y : YT} {q a : Nat} {v : Int32} (O : Ok Γ own cc n rm) (d : decode cc pc = .ok (.arraylength, 1)) (hz : shp[q]? = some (.inr (a, 0))) (hv : Int32.ofNat a = v) (k : V Γ (pc + 1) lv (.int v :: st) X Y) : V Γ pc lv (.ref q :: st) X Y := by
  obtain ⟨⟨p, l, e, R, s, m⟩, ⟨args, below, meth, c⟩, ⟨D, cI, cL, ad⟩, ⟨nL, k0, n0⟩, Qf⟩ := Γ
  exact fun H locs ls hP hS hl => va_alen O.1.1 O.1.2.1 O.2.2.1.1 hP q 0 (wld_at hz) (ty := .int) rfl hv d (k H locs ls hP hS hl)
/-- a field entry of a class's pool: class number ci, field k -/
def FO (own : String) (idx ci k : Nat) : Prop := ∃ (C : String) (T : u_T) (N : Nat), classes[ci]? = some (C, T, N) ∧ (∀ w ∈ u_ws C T N, w ∈ wl) ∧ k < N ∧ Cond.fieldLink own idx (T k).1 (T k).2.1 (T k).2.2.1 ∈ wl
def FP (ci k : Nat) (ty : FieldType) : Prop := ∃ (C : String) (T : u_T) (N : Nat) (ty0 : Nat → FieldType), classes[ci]? = some (C, T, N) ∧ (∀ k, k < N → parseFieldDescriptor (T k).2.2.1 = some (ty0 k)) ∧ (∀ a, a < N → ∀ b, b < N → a ≠ b → (T a).2.1 ≠ (T b).2.1) ∧ (T k).2.2.2 = false ∧ parseFieldDescriptor (T k).2.2.1 = some ty
theorem v_get {Γ : Cxt} {own : String} {cc : ByteArray} {n : Nat} {rm : Room} {pc : Nat} {lv : List (Nat × Value)} {st : List Value} {X : XT} {Y : YT} {q idx ci j d0 : Nat} {ks : List Nat} {v : Value} (O : Ok Γ own cc n rm) (d : decode cc pc = .ok (.getfield idx, 3)) (hf : FO own idx ci j) (hz : shp[q]? = some (.inl (ci, ks))) (hk : ks[j]? = some d0) (hv : fv X Y q j d0 = v) (k : V Γ (pc + 3) lv (v :: st) X Y) : V Γ pc lv (.ref q :: st) X Y := by
  obtain ⟨⟨p, l, e, R, s, m⟩, ⟨args, below, meth, c⟩, ⟨D, cI, cL, ad⟩, ⟨nL, k0, n0⟩, Qf⟩ := Γ
  obtain ⟨C, T, N, h1, h2, h3, h4⟩ := hf
  subst hv
  exact fun H locs ls hP hS hl => va_get (D := D) (ci := ci) (C := C) (T := T) (N := N) O.1.1 O.1.2.1 O.1.2.2.2.2 h2 O.1.2.2.2.1 O.2.2.1.1 hP q (wld_at hz) h1 j h3 (O.1.2.2.2.2 _ h4) (fun _ h9 => h9) (v := tv ad (fv X Y q j d0)) (by simp [hk]) d (k H locs ls hP hS hl)
theorem v_putI {Γ : Cxt} {own : String} {cc : ByteArray} {n : Nat} {rm : Room} {pc : Nat} {lv : List (Nat × Value)} {st : List Value} {X : XT} {Y : YT} {q idx ci j : Nat} {ks : List Nat} {x : Int32} {ty : FieldType} (O : Ok Γ own cc n rm) (d : decode cc pc = .ok (.putfield idx, 3)) (hf : FO own idx ci j) (hp : FP ci j ty) (hz : shp[q]? = some (.inl (ci, ks))) (hk : ks[j]? = some 0) (hn : narrow ty (.int x) = .int x) (ht : fits ty (.int x) = true) (k : V Γ (pc + 3) lv st (sX X q j x) Y) : V Γ pc lv (.int x :: .ref q :: st) X Y := by
  obtain ⟨⟨p, l, e, R, s, m⟩, ⟨args, below, meth, c⟩, ⟨D, cI, cL, ad⟩, ⟨nL, k0, n0⟩, Qf⟩ := Γ
  obtain ⟨C, T, N, h1, h2, h3, h4⟩ := hf
  obtain ⟨C', T', N', ty0, g1, g2, g3, g4, g5⟩ := hp
  have e := h1.symm.trans g1
  cases e
  exact fun H locs ls hP hS hl => va_put (D := D) (ci := ci) (v := .int x) (ty := ty) (C := C) (T := T) (N := N) O.1.1 O.1.2.1 O.1.2.2.2.2 h2 ty0 g2 g3 O.1.2.2.2.1 O.2.2.1.1 hP (wD O.2.2.1.2.2.2 X Y) hS q (wld_at hz) h1 j h3 (O.1.2.2.2.2 _ h4) (fun _ h9 => h9) g4 g5 hn ht (by simpa using (List.getElem?_eq_some_iff.mp hk).1) d (fun H1 locs1 hP1 _ hS1 => k H1 locs1 ls (wA_setF hz hk hP1) hS1 hl)
theorem v_putL {Γ : Cxt} {own : String} {cc : ByteArray} {n : Nat} {rm : Room} {pc : Nat} {lv : List (Nat × Value)} {st : List Value} {X : XT} {Y : YT} {q idx ci j : Nat} {ks : List Nat} {x : Int64} (O : Ok Γ own cc n rm) (d : decode cc pc = .ok (.putfield idx, 3)) (hf : FO own idx ci j) (hp : FP ci j .long) (hz : shp[q]? = some (.inl (ci, ks))) (hk : ks[j]? = some 1) (k : V Γ (pc + 3) lv st X (sY Y q j x)) : V Γ pc lv (.long x :: .ref q :: st) X Y := by
  obtain ⟨⟨p, l, e, R, s, m⟩, ⟨args, below, meth, c⟩, ⟨D, cI, cL, ad⟩, ⟨nL, k0, n0⟩, Qf⟩ := Γ
  obtain ⟨C, T, N, h1, h2, h3, h4⟩ := hf
  obtain ⟨C', T', N', ty0, g1, g2, g3, g4, g5⟩ := hp
  have e := h1.symm.trans g1
  cases e
  exact fun H locs ls hP hS hl => va_put (D := D) (ci := ci) (v := .long x) (ty := .long) (C := C) (T := T) (N := N) O.1.1 O.1.2.1 O.1.2.2.2.2 h2 ty0 g2 g3 O.1.2.2.2.1 O.2.2.1.1 hP (wD O.2.2.1.2.2.2 X Y) hS q (wld_at hz) h1 j h3 (O.1.2.2.2.2 _ h4) (fun _ h9 => h9) g4 g5 rfl rfl (by simpa using (List.getElem?_eq_some_iff.mp hk).1) d (fun H1 locs1 hP1 _ hS1 => k H1 locs1 ls (wA_setFL hz hk hP1) hS1 hl)
theorem v_iret {Γ : Cxt} {own : String} {cc : ByteArray} {n : Nat} {rm : Room} {pc : Nat} {lv : List (Nat × Value)} {X : XT} {Y : YT} {v : Int32} {Q : PT} (O : Ok Γ own cc n rm) (r : Ret Γ (some .int) Q) (d : decode cc pc = .ok (.ireturn, 1)) (h : Q (some (.int v)) X Y) : V Γ pc lv [.int v] X Y := by
  obtain ⟨⟨p, l, e, R, s, m⟩, ⟨args, below, meth, c⟩, ⟨D, cI, cL, ad⟩, ⟨nL, k0, n0⟩, Qf⟩ := Γ
  obtain ⟨r1, r2⟩ := r
  have r2 : Qf = _ := r2
  subst r2
  have hlocks := O.2.1
  exact fun H locs ls hP hS hl => W.iret O.1.1 O.1.2.1 r1 (fun t ht hW => ⟨⟨some (.int v), X, Y, rfl, h, by rw [ht]; exact hP⟩, hS.F ht⟩) hS.2.2 d hlocks
theorem v_lret {Γ : Cxt} {own : String} {cc : ByteArray} {n : Nat} {rm : Room} {pc : Nat} {lv : List (Nat × Value)} {X : XT} {Y : YT} {v : Int64} {Q : PT} (O : Ok Γ own cc n rm) (r : Ret Γ (some .long) Q) (d : decode cc pc = .ok (.lreturn, 1)) (h : Q (some (.long v)) X Y) : V Γ pc lv [.long v] X Y := by
  obtain ⟨⟨p, l, e, R, s, m⟩, ⟨args, below, meth, c⟩, ⟨D, cI, cL, ad⟩, ⟨nL, k0, n0⟩, Qf⟩ := Γ
  obtain ⟨r1, r2⟩ := r
  have r2 : Qf = _ := r2
  subst r2
  have hlocks := O.2.1
  exact fun H locs ls hP hS hl => W.lret O.1.1 O.1.2.1 r1 (fun t ht hW => ⟨⟨some (.long v), X, Y, rfl, h, by rw [ht]; exact hP⟩, hS.F ht⟩) hS.2.2 d hlocks
theorem v_vret {Γ : Cxt} {own : String} {cc : ByteArray} {n : Nat} {rm : Room} {pc : Nat} {lv : List (Nat × Value)} {X : XT} {Y : YT} {Q : PT} (O : Ok Γ own cc n rm) (r : Ret Γ (none) Q) (d : decode cc pc = .ok (.return_, 1)) (h : Q (none) X Y) : V Γ pc lv [] X Y := by
  obtain ⟨⟨p, l, e, R, s, m⟩, ⟨args, below, meth, c⟩, ⟨D, cI, cL, ad⟩, ⟨nL, k0, n0⟩, Qf⟩ := Γ
  obtain ⟨r1, r2⟩ := r
  have r2 : Qf = _ := r2
  subst r2
  have hlocks := O.2.1
  exact fun H locs ls hP hS hl => W.vret O.1.1 O.1.2.1 r1 (fun t ht hW => ⟨⟨none, X, Y, rfl, h, by rw [ht]; exact hP⟩, hS.F ht⟩) hS.2.2 d hlocks
theorem v_zret {Γ : Cxt} {own : String} {cc : ByteArray} {n : Nat} {rm : Room} {pc : Nat} {lv : List (Nat × Value)} {X : XT} {Y : YT} {v : Int32} {ty : FieldType} {Q : PT} (O : Ok Γ own cc n rm) (r : Ret Γ (some ty) Q) (d : decode cc pc = .ok (.ireturn, 1)) (hn : narrow ty (.int v) = .int v) (h : Q (some (.int v)) X Y) : V Γ pc lv [.int v] X Y := by
  obtain ⟨⟨p, l, e, R, s, m⟩, ⟨args, below, meth, c⟩, ⟨D, cI, cL, ad⟩, ⟨nL, k0, n0⟩, Qf⟩ := Γ
  obtain ⟨r1, r2⟩ := r
  have r2 : Qf = _ := r2
  subst r2
  have hlocks := O.2.1
  exact fun H locs ls hP hS hl => W.zret O.1.1 O.1.2.1 r1 hn (fun t ht hW => ⟨⟨some (.int v), X, Y, rfl, h, by rw [ht]; exact hP⟩, hS.F ht⟩) hS.2.2 d hlocks
