/-! THE JUDGEMENT V: the machine at a method's pc, over ONE world of fixed cells (those of the class and of the reference), their contents as two functions: X (cell, place: ints), Y (cell, place: longs) -/
abbrev XT : Type := Nat → Nat → Int32
abbrev YT : Type := Nat → Nat → Int64
def sX (X : XT) (q k : Nat) (v : Int32) : XT := fun a => if a = q then upd (X q) k v else X a
def sY (Y : YT) (q k : Nat) (v : Int64) : YT := fun a => if a = q then vp_updL (Y q) k v else Y a
/-- a field's value: kind 0 an int, 1 a long, r + 2 the cell r -/
def fv (X : XT) (Y : YT) (q j : Nat) : Nat → Value
  | 0 => .int (X q j)
  | 1 => .long (Y q j)
  | r + 2 => .ref r
/-- a cell's number becomes its address -/
def tv (ad : Nat → Nat) : Value → Value
  | .ref k => .ref (ad k)
  | v => v
theorem tv_cat (ad : Nat → Nat) (v : Value) : (tv ad v).category = v.category := by cases v <;> rfl
abbrev ShT : Type := (Nat × List Nat) ⊕ (Nat × Nat)
def cel (cI cL : ClassId) (ad : Nat → Nat) (X : XT) (Y : YT) (q : Nat) : ShT → va_E
  | .inl (ci, ks) => .inr (ci, ks.mapIdx (fun j k => tv ad (fv X Y q j k)))
  | .inr (n, 0) => .inl (cI, n, .inl (X q))
  | .inr (n, _ + 1) => .inl (cL, n, .inr (.inl (Y q)))
def wld (sh : List ShT) (cI cL : ClassId) (ad : Nat → Nat) (X : XT) (Y : YT) : va_W := sh.mapIdx (fun q z => (ad q, cel cI cL ad X Y q z))
theorem wld_at {sh : List ShT} {cI cL : ClassId} {ad : Nat → Nat} {X : XT} {Y : YT} {q : Nat} {z : ShT} (h : sh[q]? = some z) : (wld sh cI cL ad X Y)[q]? = some (ad q, cel cI cL ad X Y q z) := by
  simp [wld, h]
theorem wld_ofK {sh : List ShT} {cI cL : ClassId} {ad : Nat → Nat} {X : XT} {Y : YT} {k : Nat} {q : Nat × va_E} (h : (wld sh cI cL ad X Y)[k]? = some q) : k < sh.length ∧ q.1 = ad k := by
  have h1 := (List.getElem?_eq_some_iff.mp h).1
  simp only [wld, List.length_mapIdx] at h1
  refine ⟨h1, ?_⟩
  simp only [wld, List.getElem?_mapIdx] at h
  cases hz : sh[k]? with
  | none => rw [hz] at h; cases h
  | some z => rw [hz] at h; cases h; rfl
theorem sX_ne {X : XT} {q k a : Nat} {v : Int32} (h : a ≠ q) : sX X q k v a = X a := by simp [sX, h]
theorem sX_eq {X : XT} {q k : Nat} {v : Int32} : sX X q k v q = upd (X q) k v := by simp [sX]
theorem sY_ne {Y : YT} {q k a : Nat} {v : Int64} (h : a ≠ q) : sY Y q k v a = Y a := by simp [sY, h]
theorem sY_eq {Y : YT} {q k : Nat} {v : Int64} : sY Y q k v q = vp_updL (Y q) k v := by simp [sY]
theorem cel_neX {cI cL : ClassId} {ad : Nat → Nat} {X : XT} {Y : YT} {q a k : Nat} {v : Int32} (h : a ≠ q) (z : ShT) : cel cI cL ad (sX X q k v) Y a z = cel cI cL ad X Y a z := by
  have e := sX_ne (X := X) (k := k) (v := v) h
  have f : ∀ j d, fv (sX X q k v) Y a j d = fv X Y a j d := by
    intro j d
    match d with
    | 0 => simp [fv, e]
    | 1 => rfl
    | r + 2 => rfl
  match z with
  | .inl (ci, ks) => simp [cel, f]
  | .inr (n, 0) => simp [cel, e]
  | .inr (n, m + 1) => rfl
theorem cel_neY {cI cL : ClassId} {ad : Nat → Nat} {X : XT} {Y : YT} {q a k : Nat} {v : Int64} (h : a ≠ q) (z : ShT) : cel cI cL ad X (sY Y q k v) a z = cel cI cL ad X Y a z := by
  have e := sY_ne (Y := Y) (k := k) (v := v) h
  have f : ∀ j d, fv X (sY Y q k v) a j d = fv X Y a j d := by
    intro j d
    match d with
    | 0 => rfl
    | 1 => simp [fv, e]
    | r + 2 => rfl
  match z with
  | .inl (ci, ks) => simp [cel, f]
  | .inr (n, 0) => rfl
  | .inr (n, m + 1) => simp [cel, e]
theorem wld_set {sh : List ShT} {cI cL : ClassId} {ad : Nat → Nat} {X X' : XT} {Y Y' : YT} {q : Nat} {z : ShT} {v : va_E} (h : sh[q]? = some z) (hv : cel cI cL ad X' Y' q z = v) (ho : ∀ a z', a ≠ q → cel cI cL ad X' Y' a z' = cel cI cL ad X Y a z') : (wld sh cI cL ad X Y).set q (ad q, v) = wld sh cI cL ad X' Y' := by
  apply List.ext_getElem?
  intro i
  have hl := (List.getElem?_eq_some_iff.mp h).1
  by_cases hi : i = q
  · subst hi
    rw [List.getElem?_set_self (by simp [wld]; exact hl), wld_at h, hv]
  · rw [List.getElem?_set_ne (Ne.symm hi)]
    simp only [wld, List.getElem?_mapIdx]
    cases hz : sh[i]? with
    | none => rfl
    | some z' => simp [ho i z' hi]
theorem wld_setF {sh : List ShT} {cI cL : ClassId} {ad : Nat → Nat} {X : XT} {Y : YT} {q k ci : Nat} {ks : List Nat} {v : Int32} (h : sh[q]? = some (.inl (ci, ks))) (hk : ks[k]? = some 0) :
    (wld sh cI cL ad X Y).set q (ad q, .inr (ci, (ks.mapIdx (fun j d => tv ad (fv X Y q j d))).set k (.int v))) = wld sh cI cL ad (sX X q k v) Y := by
  refine wld_set h ?_ (fun a z' ha => cel_neX ha z')
  have e : ks.mapIdx (fun j d => tv ad (fv (sX X q k v) Y q j d)) = (ks.mapIdx (fun j d => tv ad (fv X Y q j d))).set k (.int v) := by
    apply List.ext_getElem?
    intro i
    have hl := (List.getElem?_eq_some_iff.mp hk).1
    by_cases hi : i = k
    · subst hi
      rw [List.getElem?_set_self (by simp; exact hl)]
      simp [hk, fv, tv, sX, upd]
    · rw [List.getElem?_set_ne (Ne.symm hi)]
      simp only [List.getElem?_mapIdx]
      cases hz : ks[i]? with
      | none => rfl
      | some d =>
        match d with
        | 0 => simp [fv, tv, sX, upd, hi]
        | 1 => rfl
        | r + 2 => rfl
  simp [cel, e]
theorem wld_setFL {sh : List ShT} {cI cL : ClassId} {ad : Nat → Nat} {X : XT} {Y : YT} {q k ci : Nat} {ks : List Nat} {v : Int64} (h : sh[q]? = some (.inl (ci, ks))) (hk : ks[k]? = some 1) :
    (wld sh cI cL ad X Y).set q (ad q, .inr (ci, (ks.mapIdx (fun j d => tv ad (fv X Y q j d))).set k (.long v))) = wld sh cI cL ad X (sY Y q k v) := by
  refine wld_set h ?_ (fun a z' ha => cel_neY ha z')
  have e : ks.mapIdx (fun j d => tv ad (fv X (sY Y q k v) q j d)) = (ks.mapIdx (fun j d => tv ad (fv X Y q j d))).set k (.long v) := by
    apply List.ext_getElem?
    intro i
    have hl := (List.getElem?_eq_some_iff.mp hk).1
    by_cases hi : i = k
    · subst hi
      rw [List.getElem?_set_self (by simp; exact hl)]
      simp [hk, fv, tv, sY, vp_updL]
    · rw [List.getElem?_set_ne (Ne.symm hi)]
      simp only [List.getElem?_mapIdx]
      cases hz : ks[i]? with
      | none => rfl
      | some d =>
        match d with
        | 0 => rfl
        | 1 => simp [fv, tv, sY, vp_updL, hi]
        | r + 2 => rfl
  simp [cel, e]
theorem wld_setA {sh : List ShT} {cI cL : ClassId} {ad : Nat → Nat} {X : XT} {Y : YT} {q k n : Nat} {v : Int32} (h : sh[q]? = some (.inr (n, 0))) :
    (wld sh cI cL ad X Y).set q (ad q, .inl (cI, n, .inl (upd (X q) k v))) = wld sh cI cL ad (sX X q k v) Y :=
  wld_set h (by simp [cel, sX]) (fun a z' ha => cel_neX ha z')
theorem wld_setAL {sh : List ShT} {cI cL : ClassId} {ad : Nat → Nat} {X : XT} {Y : YT} {q k n : Nat} {v : Int64} (h : sh[q]? = some (.inr (n, 1))) :
    (wld sh cI cL ad X Y).set q (ad q, .inl (cL, n, .inr (.inl (vp_updL (Y q) k v)))) = wld sh cI cL ad X (sY Y q k v) :=
  wld_set h (by simp [cel, sY]) (fun a z' ha => cel_neY ha z')
/-! the context of a method's body, as one tuple -/
abbrev Cxt : Type := (Program × Launch × Env × Room × State × MethodId) × (Array Value × List Frame × Method × Code) × (va_G × ClassId × ClassId × (Nat → Nat)) × (Nat × Nat × Nat) × (State → Prop)
/-- the cells that may be written -/
def A0 (ad : Nat → Nat) : Nat → Prop := fun a => ∃ k, k < shp.length ∧ a = ad k
def wl : List Cond := lw_tbl.filter goodWord
theorem in_wl {w : Cond} (h : w ∈ lw_tbl) (hg : goodWord w = true) : w ∈ wl := List.mem_filter.mpr ⟨h, hg⟩
theorem goodIn_wl {y : MethodName} {cc : ByteArray} {n : Nat} {r : Option FieldType} (h : Cond.code y cc n r ∈ wl) : GoodIn wl (Cond.code y cc n r :: wl) := by
  intro w hw
  rcases List.mem_cons.mp hw with e | hw
  · subst e
    exact ⟨h, good_of_word (List.mem_filter.mp h).2⟩
  · exact ⟨hw, good_of_word (List.mem_filter.mp hw).2⟩
def NW (U : State) : Prop := ∀ q ∈ nestL, va_Nw (.methodLinkNest q.1 q.2.1 q.2.2.1 q.2.2.2) U
theorem NW.warm {s U : State} (hW : s.WarmedH U.vm) (h : NW s) : NW U := fun q hq => va_Nw.warmM hW (h q hq)
theorem NW.same {u U : State} (hv : u.vm = U.vm) (h : NW u) : NW U := fun q hq => va_Nw.same rfl hv (h q hq)
/-- a static of the JDK's that is handed on, and never looked at -/
def SF (ad : Nat → Nat) (U : State) (H : Heap) : Prop := va_Z "jdk/internal/util/Preconditions" "SIOOBE_FORMATTER" "Ljava/util/function/BiFunction;" .null (A0 ad) U H ∨ va_Z "jdk/internal/util/Preconditions" "SIOOBE_FORMATTER" "Ljava/util/function/BiFunction;" (.ref (ad (shp.length + 6))) (A0 ad) U H
theorem SF.moved {ad : Nat → Nat} {u U : State} {H : Heap} (hvm : u.vm.Alike U.vm) (h : SF ad u H) : SF ad U H := h.imp (va_Z.moved hvm) (va_Z.moved hvm)
theorem SF.kept {ad : Nat → Nat} {U : State} {H H1 : Heap} (h : SF ad U H) (hq : ∀ a : Nat, a < H.size → ¬ A0 ad a → H1[a]? = H[a]?) : SF ad U H1 := h.imp (fun h => h.kept hq) (fun h => h.kept hq)
/-- the String constants, and the one static that their members read -/
def SK (ad : Nat → Nat) (U : State) (H : Heap) : Prop :=
  vk_S 3 slen sbyt (fun i => ad (shp.length + i)) (fun i => ad (shp.length + 3 + i)) (A0 ad) U H ∧ va_Z "java/lang/String" "COMPACT_STRINGS" "Z" (.int 1) (A0 ad) U H ∧
    vk_R "UnderBars$PageParser" 48 "day" (ad shp.length) U ∧ vk_R "UnderBars$PageParser" 60 "fount" (ad (shp.length + 1)) U ∧ vk_R "UnderBars$PageParser" 109 "office" (ad (shp.length + 2)) U ∧ SF ad U H
theorem SK.warm {ad : Nat → Nat} {s U : State} {H : Heap} (hW : s.WarmedH U.vm) (h : SK ad s H) : SK ad U H :=
  ⟨vk_S.moved hW.alike h.1, va_Z.moved hW.alike h.2.1, vk_R.warm hW h.2.2.1, vk_R.warm hW h.2.2.2.1, vk_R.warm hW h.2.2.2.2.1, h.2.2.2.2.2.moved hW.alike⟩
theorem SK.kept {ad : Nat → Nat} {U : State} {H H1 : Heap} (h : SK ad U H) (hq : ∀ a : Nat, a < H.size → ¬ A0 ad a → H1[a]? = H[a]?) : SK ad U H1 :=
  ⟨h.1.kept hq, h.2.1.kept hq, h.2.2.1, h.2.2.2.1, h.2.2.2.2.1, h.2.2.2.2.2.kept hq⟩
def Inj (ad : Nat → Nat) : Prop := ∀ i j, i < shp.length → j < shp.length → ad i = ad j → i = j
/-- what stands of the tables at a state -/
def KK (D : va_G) (cI cL : ClassId) (ad : Nat → Nat) (U : State) (H : Heap) : Prop := va_K D classes [(cI, .int), (cL, .long)] U ∧ NW U ∧ SK ad U H ∧ Inj ad
theorem KK.warm {D : va_G} {cI cL : ClassId} {ad : Nat → Nat} {s U : State} {H : Heap} (hW : s.WarmedH U.vm) (h : KK D cI cL ad s H) : KK D cI cL ad U H :=
  ⟨va_K.moved hW.alike h.1, h.2.1.warm hW, h.2.2.1.warm hW, h.2.2.2⟩
theorem KK.kept {D : va_G} {cI cL : ClassId} {ad : Nat → Nat} {U : State} {H H1 : Heap} (h : KK D cI cL ad U H) (hq : ∀ a : Nat, a < H.size → ¬ A0 ad a → H1[a]? = H[a]?) : KK D cI cL ad U H1 :=
  ⟨h.1, h.2.1, h.2.2.1.kept hq, h.2.2.2⟩
def wA (D : va_G) (cI cL : ClassId) (ad : Nat → Nat) (X : XT) (Y : YT) (H : Heap) : Prop := va_P D classes (wld shp cI cL ad X Y) H
theorem wA_setF {D : va_G} {cI cL : ClassId} {ad : Nat → Nat} {X : XT} {Y : YT} {q k ci : Nat} {ks : List Nat} {v : Int32} {H : Heap} (h : shp[q]? = some (.inl (ci, ks))) (hk : ks[k]? = some 0) (g : va_P D classes ((wld shp cI cL ad X Y).set q (ad q, .inr (ci, (ks.mapIdx (fun j d => tv ad (fv X Y q j d))).set k (.int v)))) H) : wA D cI cL ad (sX X q k v) Y H := by
  unfold wA
  rw [← wld_setF h hk]
  exact g
theorem wA_setFL {D : va_G} {cI cL : ClassId} {ad : Nat → Nat} {X : XT} {Y : YT} {q k ci : Nat} {ks : List Nat} {v : Int64} {H : Heap} (h : shp[q]? = some (.inl (ci, ks))) (hk : ks[k]? = some 1) (g : va_P D classes ((wld shp cI cL ad X Y).set q (ad q, .inr (ci, (ks.mapIdx (fun j d => tv ad (fv X Y q j d))).set k (.long v)))) H) : wA D cI cL ad X (sY Y q k v) H := by
  unfold wA
  rw [← wld_setFL h hk]
  exact g
theorem wA_setA {D : va_G} {cI cL : ClassId} {ad : Nat → Nat} {X : XT} {Y : YT} {q k n : Nat} {v : Int32} {H : Heap} (h : shp[q]? = some (.inr (n, 0))) (g : va_P D classes ((wld shp cI cL ad X Y).set q (ad q, .inl (cI, n, .inl (upd (X q) k v)))) H) : wA D cI cL ad (sX X q k v) Y H := by
  unfold wA
  rw [← wld_setA h]
  exact g
theorem wA_setAL {D : va_G} {cI cL : ClassId} {ad : Nat → Nat} {X : XT} {Y : YT} {q k n : Nat} {v : Int64} {H : Heap} (h : shp[q]? = some (.inr (n, 1))) (g : va_P D classes ((wld shp cI cL ad X Y).set q (ad q, .inl (cL, n, .inr (.inl (vp_updL (Y q) k v))))) H) : wA D cI cL ad X (sY Y q k v) H := by
  unfold wA
  rw [← wld_setAL h]
  exact g
theorem wD {cI cL : ClassId} {ad : Nat → Nat} (h : Inj ad) (X : XT) (Y : YT) : va_D (A0 ad) (wld shp cI cL ad X Y) := by
  refine ⟨fun i j p q hi hj hpq => ?_, fun k q hk => ?_⟩
  · obtain ⟨l1, e1⟩ := wld_ofK hi
    obtain ⟨l2, e2⟩ := wld_ofK hj
    exact h i j l1 l2 (e1.symm.trans (hpq.trans e2))
  · obtain ⟨l1, e1⟩ := wld_ofK hk
    exact ⟨k, l1, e1⟩
abbrev PT : Type := Option Value → XT → YT → Prop
/-- what holds behind a method -/
def Qm (D : va_G) (cI cL : ClassId) (ad : Nat → Nat) (Q : PT) : Array Value → State → Outcome → State → Prop := fun _ st o t =>
  (∃ (r : Option Value) (X : XT) (Y : YT), o = .returned (r.map (tv ad)) ∧ Q r X Y ∧ wA D cI cL ad X Y t.heap) ∧ va_F (A0 ad) st t
/-- a method's contract, from given cells and arguments -/
def MT (Γ : Cxt) (y : MethodName) (ws : List Cond) (rm : Room) (as : List Value) (X : XT) (Y : YT) (Q : PT) : Prop :=
  match Γ with
  | ((_, l, _, _, _, _), (_, _, _, _), (D, cI, cL, ad), _, _) => Met l y ws rm (va_Pc (as.map (tv ad)) (fun U => wA D cI cL ad X Y U.heap ∧ KK D cI cL ad U U.heap)) (Qm D cI cL ad Q) 0 0 (A0 ad)
def tl (ad : Nat → Nat) (lv : List (Nat × Value)) : List (Nat × Value) := lv.map (fun q => (q.1, tv ad q.2))
def V (Γ : Cxt) (pc : Nat) (lv : List (Nat × Value)) (st : List Value) (X : XT) (Y : YT) : Prop :=
  match Γ with
  | ((p, l, e, R, s, m), (args, below, meth, c), (D, cI, cL, ad), (nL, k0, n0), Qf) => ∀ (H : Heap) (locs : List Loc) (ls : Array Slot), wA D cI cL ad X Y H → va_S (A0 ad) s.heap H locs → lv_has ls nL (tl ad lv) → W p l e R s m args below meth c H locs k0 n0 Qf (F0 m pc ls (st.map (tv ad)))
/-- the context is that of this code, with this room -/
def Ok (Γ : Cxt) (own : String) (cc : ByteArray) (n : Nat) (rm : Room) : Prop :=
  match Γ with
  | ((p, _, _, R, s, m), (args, _, meth, c), (D, cI, cL, ad), (nL, k0, n0), _) => CallFix p m c cc nL s args wl own ∧ meth.locks = false ∧ KK D cI cL ad s s.heap ∧ nL = n ∧ R = rm ∧ k0 ≤ R.cells ∧ n0 ≤ R.slots
/-- the method's end is Q -/
def Ret (Γ : Cxt) (rt : Option FieldType) (Q : PT) : Prop :=
  match Γ with
  | ((_, _, _, _, s, _), (args, below, meth, _), (D, cI, cL, ad), (_, k0, n0), Qf) => meth.sig.returnType = rt ∧ Qf = MQ below (Qm D cI cL ad Q) args s k0 n0 (A0 ad)
