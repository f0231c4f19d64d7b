/-! CALLS: a method's contract out of V of its body; V of a call out of the callee's contract -/
theorem lv_args_tv (ad : Nat → Nat) : ∀ (as : List Value) (i : Nat), lv_args i (as.map (tv ad)) = tl ad (lv_args i as)
  | [], _ => rfl
  | v :: as, i => by
    show (i, tv ad v) :: lv_args (if (tv ad v).category = 2 then i + 2 else i + 1) (as.map (tv ad)) = tl ad ((i, v) :: lv_args (if v.category = 2 then i + 2 else i + 1) as)
    rw [tv_cat, lv_args_tv ad as]
    rfl
theorem lg_sl_tv (ad : Nat → Nat) : ∀ (as : List Value), (lg_sl (as.map (tv ad))).length = (lg_sl as).length
  | [] => rfl
  | v :: as => by
    have ih := lg_sl_tv ad as
    simp only [lg_sl, List.map_cons, List.flatMap_cons, List.length_append, tv_cat] at ih ⊢
    rw [ih]
    split <;> rfl
theorem mt_of {Γ : Cxt} {y : MethodName} {cc : ByteArray} {n : Nat} {ret : Option FieldType} {rm : Room} {as : List Value} {X : XT} {Y : YT} {Q : PT} (hy : plainName y.cls = true) (hlen : (lg_sl as).length ≤ n)
    (h : ∀ Γ' : Cxt, (∀ y' ws' rm' as' X' Y' Q', MT Γ y' ws' rm' as' X' Y' Q' → MT Γ' y' ws' rm' as' X' Y' Q') → Ok Γ' y.cls cc n rm → Ret Γ' ret Q → V Γ' 0 (lv_args 0 as) [] X Y) : MT Γ y (.code y cc n ret :: wl) rm as X Y Q := by
  obtain ⟨⟨p₀, l, e₀, R₀, s₀, m₀⟩, ⟨args₀, below₀, meth₀, c₀⟩, ⟨D, cI, cL, ad⟩, ⟨nL₀, k₀, n₀⟩, Qf₀⟩ := Γ
  refine Met.ofW (cc := cc) (maxL := n) (ret := ret) hy rfl ?_
  intro p e s m args below meth c s₁ B hml hv
  obtain ⟨rfl, hP, hK⟩ := hv
  have hts := atoms_spec (ws := .code y cc n ret :: wl) B.pre
  have hown : s.vm.findClass y.cls = some m.cls := findClass_of_methodNamed B.named
  have hl := lv_entry (as.map (tv ad)) (n := n) (by rw [lg_sl_tv]; exact hlen)
  rw [lg_entry_eq]
  rw [lv_args_tv] at hl
  exact h ((p, l, e, rm, s, m), ((as.map (tv ad)).toArray, below, meth, c), (D, cI, cL, ad), (n, 0, 0), MQ below (Qm D cI cL ad Q) (as.map (tv ad)).toArray s 0 0 (A0 ad)) (fun _ _ _ _ _ _ _ g => g) ⟨⟨B.exec, B.bytes, hml, hown, fun w hw => hts w (List.mem_cons_of_mem _ hw)⟩, B.notSynchronized, hK, rfl, rfl, Nat.zero_le _, Nat.zero_le _⟩ ⟨B.returns, rfl⟩ s.heap [] _ hP va_S.rf hl
/-- what is known of a callee -/
def CIx (y : MethodName) (bytes : ByteArray) (maxL : Nat) (ret : Option FieldType) (na : Nat) : Prop := Cond.code y bytes maxL ret ∈ wl ∧ Cond.initialized y.cls ∈ wl ∧ (y.cls ≠ "java/lang/invoke/MethodHandle" ∧ y.cls ≠ "java/lang/invoke/VarHandle" ∧ (parseMethodDescriptor y.desc).map (fun d => d.parameters.length) = some na)
def RmL (rm rm' : Room) (maxL : Nat) : Prop := rm'.cells = 0 ∧ rm'.slots = 0 ∧ rm'.frames + 1 ≤ rm.frames ∧ 8 + (maxL + 11) + rm'.locals ≤ rm.locals
theorem pc_blind {D : va_G} {cI cL : ClassId} {ad : Nat → Nat} {X : XT} {Y : YT} {as : List Value} : FrameBlind (va_Pc (as.map (tv ad)) (fun U => wA D cI cL ad X Y U.heap ∧ KK D cI cL ad U U.heap)) := by
  intro a U g mk q
  obtain ⟨q0, q1, q2, q3, q4, q5⟩ := q
  refine ⟨q0, q1, va_K.moved (u := U) (U := U.calling g mk a) (Vm.Alike.refl U.vm) q2, NW.same (u := U) (U := U.calling g mk a) rfl q3, ?_, q5⟩
  exact ⟨vk_S.moved (u := U) (U := U.calling g mk a) (Vm.Alike.refl U.vm) q4.1, va_Z.moved (u := U) (U := U.calling g mk a) (Vm.Alike.refl U.vm) q4.2.1, vk_R.same (u := U) (U := U.calling g mk a) rfl q4.2.2.1, vk_R.same (u := U) (U := U.calling g mk a) rfl q4.2.2.2.1, vk_R.same (u := U) (U := U.calling g mk a) rfl q4.2.2.2.2.1, SF.moved (u := U) (U := U.calling g mk a) (Vm.Alike.refl U.vm) q4.2.2.2.2.2⟩
theorem v_behind {p : Program} {l : Launch} {e : Env} {R : Room} {s : State} {m : MethodId} {args : Array Value} {below : List Frame} {meth : Method} {c : Code} {D : va_G} {cI cL : ClassId} {ad : Nat → Nat} {nL k0 n0 pc : Nat} {Qf : State → Prop} {lv : List (Nat × Value)} {st st0 : List Value} {Q' : PT} {a : Array Value} {H : Heap} {locs : List Loc} {ls : Array Slot}
    (hr : va_Run p l e R s m args below meth c H locs k0 n0 0 0 (F0 m pc ls st0) (st.map (tv ad)) (Qm D cI cL ad Q' a) (A0 ad)) (hS : va_S (A0 ad) s.heap H locs) (hl : lv_has ls nL (tl ad lv))
    (k : ∀ r X' Y', Q' r X' Y' → V ((p, l, e, R, s, m), (args, below, meth, c), (D, cI, cL, ad), (nL, k0, n0), Qf) (pc + 3) lv (r.toList ++ st) X' Y') : W p l e R s m args below meth c H locs k0 n0 Qf (F0 m pc ls st0) := by
  intro T hT Xs
  obtain ⟨v, st₀, t, T', L, h0, X', hL, e1, e2, ⟨⟨r, X1, Y1, hv, hq, hw⟩, hz, hk⟩, sg⟩ := hr T hT Xs
  rw [h0] at hz hk
  have hv : v = r.map (tv ad) := by cases hv; rfl
  subst hv
  have hs : (r.toList ++ st).map (tv ad) = (r.map (tv ad)).toList ++ st.map (tv ad) := by cases r <;> simp
  obtain ⟨t2, a1, b1⟩ := k r X1 Y1 hq T'.heap (locs ++ L) ls (by rw [e1]; exact hw) ⟨Nat.le_trans hS.1 (by rw [e1]; exact hz), fun q h1 h2 => by rw [e1, hk q (Nat.lt_of_lt_of_le h1 hS.1) h2]; exact hS.2.1 q h1 h2, fun q hq => by
      rcases List.mem_append.mp hq with h | h
      · exact hS.2.2 q h
      · exact hL q h⟩ hl T' rfl X'
  rw [hs] at a1
  exact ⟨t2, sg t2 a1, b1⟩
theorem pre_of {D : va_G} {cI cL : ClassId} {ad : Nat → Nat} {X : XT} {Y : YT} {s : State} {H : Heap} {locs : List Loc} {as : List Value} (hP : wA D cI cL ad X Y H) (hS : va_S (A0 ad) s.heap H locs) (hK : KK D cI cL ad s s.heap) : ∀ U : State, U.heap = H → s.WarmedH U.vm → va_Pc (as.map (tv ad)) (fun U => wA D cI cL ad X Y U.heap ∧ KK D cI cL ad U U.heap) (as.map (tv ad)).toArray U := by
  intro U hU hW
  refine ⟨rfl, ?_, ?_⟩
  · show wA D cI cL ad X Y U.heap
    rw [hU]; exact hP
  · show KK D cI cL ad U U.heap
    rw [hU]
    exact (hK.kept (fun a h1 h2 => hS.2.1 a h1 h2)).warm hW
theorem v_callV {Γ : Cxt} {own : String} {cc : ByteArray} {n : Nat} {rm : Room} {pc : Nat} {lv : List (Nat × Value)} {st stk : List Value} {X : XT} {Y : YT} {idx q ci na maxL : Nat} {ks : List Nat} {y : MethodName} {bytes : ByteArray} {ret : Option FieldType} {rm' : Room} {As : List Value} {Q' : PT} (O : Ok Γ own cc n rm) (d : decode cc pc = .ok (.invokevirtual idx, 3)) (hc : CIx y bytes maxL ret na) (hl : Cond.methodLink own idx y ∈ wl) (hi : Cond.instanceMethod y ∈ wl ∧ Cond.selects y.cls y y ∈ wl) (hz : shp[q]? = some (.inl (ci, ks))) (hcl : (classes[ci]?).map (fun z => z.1) = some y.cls) (hR : RmL rm rm' maxL) (hn : As.length = na) (hW : (st.map (fun v => v.category)).sum ≤ 8) (hs : stk = As.reverse ++ .ref q :: st)
    (hM : MT Γ y (.code y bytes maxL ret :: wl) rm' (.ref q :: As) X Y Q') (k : ∀ r X' Y', Q' r X' Y' → V Γ (pc + 3) lv (r.toList ++ st) X' Y') : V Γ pc lv stk X Y := by
  obtain ⟨⟨p, l, e, R, s, m⟩, ⟨args, below, meth, c⟩, ⟨D, cI, cL, ad⟩, ⟨nL, k0, n0⟩, Qf⟩ := Γ
  obtain ⟨O1, O2, O3, O4, O5, O6, O7⟩ := O
  have O5 : R = rm := O5
  subst O5
  subst hs
  intro H locs ls hP hS hlv
  obtain ⟨cq, hq, hqe⟩ : ∃ cq : vw_C, classes[ci]? = some cq ∧ cq.1 = y.cls := by
    cases h : classes[ci]? with
    | none => rw [h] at hcl; cases hcl
    | some cq => rw [h] at hcl; exact ⟨cq, rfl, Option.some.inj hcl⟩
  have hts := O1.2.2.2.2
  have hrv := va_recv O3.1 hP hq (wld_at hz)
  rw [hqe] at hrv
  have cw : CallW R s args own y.cls idx y bytes maxL ret (.code y bytes maxL ret :: wl) rm' 0 0 na := ⟨callB_of na hts (goodIn_wl hc.1) rfl hR.1 hR.2.1 (hts _ hc.2.1) (hts _ hl) hc.2.2 ⟨hR.2.2.1, hR.2.2.2⟩, hts _ hi.1, hts _ hi.2⟩
  have hru : va_Run p l e R s m args below meth c H locs k0 n0 0 0 (F0 m pc ls ((As.reverse ++ .ref q :: st).map (tv ad))) (st.map (tv ad)) (Qm D cI cL ad Q' (Value.ref (ad q) :: As.map (tv ad)).toArray) (A0 ad) := va_runV (As := As.map (tv ad)) (rest := st.map (tv ad)) (g := F0 m pc ls ((As.reverse ++ .ref q :: st).map (tv ad))) (b := ad q) O1 hM cw ⟨pc_blind, hrv, pre_of hP hS O3⟩ rfl (by rw [List.length_map]; exact hn) hlv.1 (by simp [tv]) (lv_room (by rw [List.map_map]; simpa [Function.comp_def, tv_cat] using hW)) d ⟨O6, O7⟩
  exact v_behind hru hS hlv k
theorem v_callS {Γ : Cxt} {own : String} {cc : ByteArray} {n : Nat} {rm : Room} {pc : Nat} {lv : List (Nat × Value)} {st stk : List Value} {X : XT} {Y : YT} {idx na maxL : Nat} {y : MethodName} {bytes : ByteArray} {ret : Option FieldType} {rm' : Room} {As : List Value} {Q' : PT} (O : Ok Γ own cc n rm) (d : decode cc pc = .ok (.invokestatic idx, 3)) (hc : CIx y bytes maxL ret na) (hl : Cond.methodLink own idx y ∈ wl) (hi : Cond.static y ∈ wl) (hR : RmL rm rm' maxL) (hn : As.length = na) (hW : (st.map (fun v => v.category)).sum ≤ 8) (hs : stk = As.reverse ++ st)
    (hM : MT Γ y (.code y bytes maxL ret :: wl) rm' As X Y Q') (k : ∀ r X' Y', Q' r X' Y' → V Γ (pc + 3) lv (r.toList ++ st) X' Y') : V Γ pc lv stk X Y := by
  obtain ⟨⟨p, l, e, R, s, m⟩, ⟨args, below, meth, c⟩, ⟨D, cI, cL, ad⟩, ⟨nL, k0, n0⟩, Qf⟩ := Γ
  obtain ⟨O1, O2, O3, O4, O5, O6, O7⟩ := O
  have O5 : R = rm := O5
  subst O5
  subst hs
  intro H locs ls hP hS hlv
  have hts := O1.2.2.2.2
  have cw : CallB R s args own idx y bytes maxL ret (.code y bytes maxL ret :: wl) rm' 0 0 na ∧ (Cond.static y).before args s = true := ⟨callB_of na hts (goodIn_wl hc.1) rfl hR.1 hR.2.1 (hts _ hc.2.1) (hts _ hl) hc.2.2 ⟨hR.2.2.1, hR.2.2.2⟩, hts _ hi⟩
  have hru : va_Run p l e R s m args below meth c H locs k0 n0 0 0 (F0 m pc ls ((As.reverse ++ st).map (tv ad))) (st.map (tv ad)) (Qm D cI cL ad Q' (As.map (tv ad)).toArray) (A0 ad) := va_runS (As := As.map (tv ad)) (rest := st.map (tv ad)) (g := F0 m pc ls ((As.reverse ++ st).map (tv ad))) O1 hM cw ⟨pc_blind, pre_of hP hS O3⟩ rfl (by rw [List.length_map]; exact hn) hlv.1 (by simp) (lv_room (by rw [List.map_map]; simpa [Function.comp_def, tv_cat] using hW)) d ⟨O6, O7⟩
  exact v_behind hru hS hlv k
theorem v_callN {Γ : Cxt} {own host : String} {cc : ByteArray} {n : Nat} {rm : Room} {pc : Nat} {lv : List (Nat × Value)} {st stk : List Value} {X : XT} {Y : YT} {idx na maxL : Nat} {y : MethodName} {bytes : ByteArray} {ret : Option FieldType} {rm' : Room} {As : List Value} {Q' : PT} (O : Ok Γ own cc n rm) (d : decode cc pc = .ok (.invokestatic idx, 3)) (hc : CIx y bytes maxL ret na) (hl : (own, idx, y, host) ∈ nestL) (hi : Cond.static y ∈ wl) (hR : RmL rm rm' maxL) (hn : As.length = na) (hW : (st.map (fun v => v.category)).sum ≤ 8) (hs : stk = As.reverse ++ st)
    (hM : MT Γ y (.code y bytes maxL ret :: wl) rm' As X Y Q') (k : ∀ r X' Y', Q' r X' Y' → V Γ (pc + 3) lv (r.toList ++ st) X' Y') : V Γ pc lv stk X Y := by
  obtain ⟨⟨p, l, e, R, s, m⟩, ⟨args, below, meth, c⟩, ⟨D, cI, cL, ad⟩, ⟨nL, k0, n0⟩, Qf⟩ := Γ
  obtain ⟨O1, O2, O3, O4, O5, O6, O7⟩ := O
  have O5 : R = rm := O5
  subst O5
  subst hs
  intro H locs ls hP hS hlv
  have hts := O1.2.2.2.2
  have cw : va_CN R s args own idx y host bytes maxL ret (.code y bytes maxL ret :: wl) rm' 0 0 na ∧ (Cond.static y).before args s = true ∧ True := ⟨va_cnB na hts (goodIn_wl hc.1) rfl hR.1 hR.2.1 (O3.2.1 _ hl) (hts _ hc.2.1) hc.2.2 ⟨hR.2.2.1, hR.2.2.2⟩, hts _ hi, trivial⟩
  have hru : va_Run p l e R s m args below meth c H locs k0 n0 0 0 (F0 m pc ls ((As.reverse ++ st).map (tv ad))) (st.map (tv ad)) (Qm D cI cL ad Q' (As.map (tv ad)).toArray) (A0 ad) := va_runSN (As := As.map (tv ad)) (rest := st.map (tv ad)) (g := F0 m pc ls ((As.reverse ++ st).map (tv ad))) O1 hM cw ⟨pc_blind, pre_of hP hS O3⟩ rfl (by rw [List.length_map]; exact hn) hlv.1 (by simp) (lv_room (by rw [List.map_map]; simpa [Function.comp_def, tv_cat] using hW)) d ⟨O6, O7⟩
  exact v_behind hru hS hlv k
def qI (Q : Int32 → XT → YT → Prop) : PT := fun r X Y => ∃ v : Int32, r = some (.int v) ∧ Q v X Y
def qL (Q : Int64 → XT → YT → Prop) : PT := fun r X Y => ∃ v : Int64, r = some (.long v) ∧ Q v X Y
def qV (Q : XT → YT → Prop) : PT := fun r X Y => r = none ∧ Q X Y
theorem k_I {Γ : Cxt} {pc : Nat} {lv : List (Nat × Value)} {st : List Value} {Q : Int32 → XT → YT → Prop} (k : ∀ v X' Y', Q v X' Y' → V Γ pc lv (.int v :: st) X' Y') : ∀ r X' Y', qI Q r X' Y' → V Γ pc lv (r.toList ++ st) X' Y' := by
  rintro r X' Y' ⟨v, rfl, h⟩
  exact k v X' Y' h
theorem k_L {Γ : Cxt} {pc : Nat} {lv : List (Nat × Value)} {st : List Value} {Q : Int64 → XT → YT → Prop} (k : ∀ v X' Y', Q v X' Y' → V Γ pc lv (.long v :: st) X' Y') : ∀ r X' Y', qL Q r X' Y' → V Γ pc lv (r.toList ++ st) X' Y' := by
  rintro r X' Y' ⟨v, rfl, h⟩
  exact k v X' Y' h
theorem k_V {Γ : Cxt} {pc : Nat} {lv : List (Nat × Value)} {st : List Value} {Q : XT → YT → Prop} (k : ∀ X' Y', Q X' Y' → V Γ pc lv st X' Y') : ∀ r X' Y', qV Q r X' Y' → V Γ pc lv (r.toList ++ st) X' Y' := by
  rintro r X' Y' ⟨rfl, h⟩
  exact k X' Y' h
