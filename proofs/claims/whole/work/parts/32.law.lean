/-! THE CLAIM OUT OF ONE WALK OF THE LAW'S BODY. Your part is whole_start (and what it stands on); all else here is the same for every law, but numbers. -/
def R_law : String := "UnderBarsLaw"
theorem ml__law_13 : Cond.methodLink R_law 13 yX9_wide ∈ wl := in_wl (List.mem_append_right _ (List.mem_of_getElem? (i := 404) (by decide +kernel))) rfl
theorem ml__law_17 : Cond.methodLink R_law 17 yX10_wide ∈ wl := in_wl (List.mem_append_right _ (List.mem_of_getElem? (i := 1080) (by decide +kernel))) rfl
theorem kl__law_18 : Cond.constantLong R_law 18 4294967295 ∈ wl := in_wl (List.mem_append_right _ (List.mem_of_getElem? (i := 1356) (by decide +kernel))) rfl
theorem ml__law_20 : Cond.methodLink R_law 20 yX9_feed ∈ wl := in_wl (List.mem_append_right _ (List.mem_of_getElem? (i := 419) (by decide +kernel))) rfl
theorem ml__law_24 : Cond.methodLink R_law 24 yX10_feed ∈ wl := in_wl (List.mem_append_right _ (List.mem_of_getElem? (i := 1089) (by decide +kernel))) rfl
theorem ml__law_25 : Cond.methodLink R_law 25 yX9_name ∈ wl := in_wl (List.mem_append_right _ (List.mem_of_getElem? (i := 427) (by decide +kernel))) rfl
theorem ml__law_29 : Cond.methodLink R_law 29 yX10_name ∈ wl := in_wl (List.mem_append_right _ (List.mem_of_getElem? (i := 1095) (by decide +kernel))) rfl
theorem ml__law_30 : Cond.methodLink R_law 30 yX9_offices ∈ wl := in_wl (List.mem_append_right _ (List.mem_of_getElem? (i := 469) (by decide +kernel))) rfl
theorem ml__law_34 : Cond.methodLink R_law 34 yX10_offices ∈ wl := in_wl (List.mem_append_right _ (List.mem_of_getElem? (i := 1106) (by decide +kernel))) rfl
theorem ml__law_35 : Cond.methodLink R_law 35 yX9_there ∈ wl := in_wl (List.mem_append_right _ (List.mem_of_getElem? (i := 479) (by decide +kernel))) rfl
theorem ml__law_38 : Cond.methodLink R_law 38 yX10_there ∈ wl := in_wl (List.mem_append_right _ (List.mem_of_getElem? (i := 1115) (by decide +kernel))) rfl
theorem ml__law_39 : Cond.methodLink R_law 39 yX9_weight ∈ wl := in_wl (List.mem_append_right _ (List.mem_of_getElem? (i := 483) (by decide +kernel))) rfl
theorem ml__law_42 : Cond.methodLink R_law 42 yX10_weight ∈ wl := in_wl (List.mem_append_right _ (List.mem_of_getElem? (i := 1120) (by decide +kernel))) rfl
theorem ml__law_48 : Cond.methodLink R_law 48 yX9_slack ∈ wl := in_wl (List.mem_append_right _ (List.mem_of_getElem? (i := 498) (by decide +kernel))) rfl
theorem ml__law_52 : Cond.methodLink R_law 52 yX10_slack ∈ wl := in_wl (List.mem_append_right _ (List.mem_of_getElem? (i := 1129) (by decide +kernel))) rfl
theorem ml__law_53 : Cond.methodLink R_law 53 yX9_told ∈ wl := in_wl (List.mem_append_right _ (List.mem_of_getElem? (i := 502) (by decide +kernel))) rfl
theorem ml__law_56 : Cond.methodLink R_law 56 yX10_told ∈ wl := in_wl (List.mem_append_right _ (List.mem_of_getElem? (i := 1133) (by decide +kernel))) rfl
theorem ml__law_57 : Cond.methodLink R_law 57 yX9_count ∈ wl := in_wl (List.mem_append_right _ (List.mem_of_getElem? (i := 510) (by decide +kernel))) rfl
theorem ml__law_60 : Cond.methodLink R_law 60 yX10_count ∈ wl := in_wl (List.mem_append_right _ (List.mem_of_getElem? (i := 1141) (by decide +kernel))) rfl
theorem ml__law_61 : Cond.methodLink R_law 61 yX9_page ∈ wl := in_wl (List.mem_append_right _ (List.mem_of_getElem? (i := 525) (by decide +kernel))) rfl
theorem ml__law_64 : Cond.methodLink R_law 64 yX10_page ∈ wl := in_wl (List.mem_append_right _ (List.mem_of_getElem? (i := 1152) (by decide +kernel))) rfl
theorem ml__law_65 : Cond.methodLink R_law 65 yX9_fault ∈ wl := in_wl (List.mem_append_right _ (List.mem_of_getElem? (i := 639) (by decide +kernel))) rfl
theorem ml__law_68 : Cond.methodLink R_law 68 yX10_fault ∈ wl := in_wl (List.mem_append_right _ (List.mem_of_getElem? (i := 1193) (by decide +kernel))) rfl
theorem ml__law_69 : Cond.methodLink R_law 69 yX9_place ∈ wl := in_wl (List.mem_append_right _ (List.mem_of_getElem? (i := 643) (by decide +kernel))) rfl
theorem ml__law_72 : Cond.methodLink R_law 72 yX10_place ∈ wl := in_wl (List.mem_append_right _ (List.mem_of_getElem? (i := 1197) (by decide +kernel))) rfl
theorem ml__law_73 : Cond.methodLink R_law 73 yX9_twins ∈ wl := in_wl (List.mem_append_right _ (List.mem_of_getElem? (i := 652) (by decide +kernel))) rfl
theorem ml__law_76 : Cond.methodLink R_law 76 yX10_twins ∈ wl := in_wl (List.mem_append_right _ (List.mem_of_getElem? (i := 1205) (by decide +kernel))) rfl
theorem ml__law_77 : Cond.methodLink R_law 77 yX9_readings ∈ wl := in_wl (List.mem_append_right _ (List.mem_of_getElem? (i := 666) (by decide +kernel))) rfl
theorem ml__law_80 : Cond.methodLink R_law 80 yX10_readings ∈ wl := in_wl (List.mem_append_right _ (List.mem_of_getElem? (i := 1213) (by decide +kernel))) rfl
theorem ml__law_81 : Cond.methodLink R_law 81 yX9_reading ∈ wl := in_wl (List.mem_append_right _ (List.mem_of_getElem? (i := 782) (by decide +kernel))) rfl
theorem ml__law_84 : Cond.methodLink R_law 84 yX10_reading ∈ wl := in_wl (List.mem_append_right _ (List.mem_of_getElem? (i := 1253) (by decide +kernel))) rfl
theorem ml__law_85 : Cond.methodLink R_law 85 yX9_may ∈ wl := in_wl (List.mem_append_right _ (List.mem_of_getElem? (i := 786) (by decide +kernel))) rfl
theorem ml__law_88 : Cond.methodLink R_law 88 yX10_may ∈ wl := in_wl (List.mem_append_right _ (List.mem_of_getElem? (i := 1257) (by decide +kernel))) rfl
theorem ml__law_89 : Cond.methodLink R_law 89 yX9_fits ∈ wl := in_wl (List.mem_append_right _ (List.mem_of_getElem? (i := 794) (by decide +kernel))) rfl
theorem ml__law_92 : Cond.methodLink R_law 92 yX10_fits ∈ wl := in_wl (List.mem_append_right _ (List.mem_of_getElem? (i := 1265) (by decide +kernel))) rfl
theorem ml__law_93 : Cond.methodLink R_law 93 yX9_odds ∈ wl := in_wl (List.mem_append_right _ (List.mem_of_getElem? (i := 799) (by decide +kernel))) rfl
theorem ml__law_97 : Cond.methodLink R_law 97 yX10_odds ∈ wl := in_wl (List.mem_append_right _ (List.mem_of_getElem? (i := 1269) (by decide +kernel))) rfl
theorem ml__law_98 : Cond.methodLink R_law 98 yX9_on ∈ wl := in_wl (List.mem_append_right _ (List.mem_of_getElem? (i := 815) (by decide +kernel))) rfl
theorem ml__law_101 : Cond.methodLink R_law 101 yX10_on ∈ wl := in_wl (List.mem_append_right _ (List.mem_of_getElem? (i := 1280) (by decide +kernel))) rfl
theorem ml__law_102 : Cond.methodLink R_law 102 yX9_away ∈ wl := in_wl (List.mem_append_right _ (List.mem_of_getElem? (i := 827) (by decide +kernel))) rfl
theorem ml__law_105 : Cond.methodLink R_law 105 yX10_away ∈ wl := in_wl (List.mem_append_right _ (List.mem_of_getElem? (i := 1288) (by decide +kernel))) rfl
theorem ml__law_106 : Cond.methodLink R_law 106 yX9_knows ∈ wl := in_wl (List.mem_append_right _ (List.mem_of_getElem? (i := 835) (by decide +kernel))) rfl
theorem ml__law_109 : Cond.methodLink R_law 109 yX10_knows ∈ wl := in_wl (List.mem_append_right _ (List.mem_of_getElem? (i := 1300) (by decide +kernel))) rfl
theorem ml__law_110 : Cond.methodLink R_law 110 yX9_together ∈ wl := in_wl (List.mem_append_right _ (List.mem_of_getElem? (i := 843) (by decide +kernel))) rfl
theorem ml__law_113 : Cond.methodLink R_law 113 yX10_together ∈ wl := in_wl (List.mem_append_right _ (List.mem_of_getElem? (i := 1304) (by decide +kernel))) rfl
theorem ml__law_114 : Cond.methodLink R_law 114 yX9_sees ∈ wl := in_wl (List.mem_append_right _ (List.mem_of_getElem? (i := 850) (by decide +kernel))) rfl
theorem ml__law_117 : Cond.methodLink R_law 117 yX10_sees ∈ wl := in_wl (List.mem_append_right _ (List.mem_of_getElem? (i := 1312) (by decide +kernel))) rfl
theorem ml__law_118 : Cond.methodLink R_law 118 yX9_keep ∈ wl := in_wl (List.mem_append_right _ (List.mem_of_getElem? (i := 854) (by decide +kernel))) rfl
theorem ml__law_121 : Cond.methodLink R_law 121 yX10_keep ∈ wl := in_wl (List.mem_append_right _ (List.mem_of_getElem? (i := 1316) (by decide +kernel))) rfl
theorem ml__law_122 : Cond.methodLink R_law 122 yX9_betrayed ∈ wl := in_wl (List.mem_append_right _ (List.mem_of_getElem? (i := 858) (by decide +kernel))) rfl
theorem ml__law_125 : Cond.methodLink R_law 125 yX10_betrayed ∈ wl := in_wl (List.mem_append_right _ (List.mem_of_getElem? (i := 1320) (by decide +kernel))) rfl
theorem ml__law_126 : Cond.methodLink R_law 126 yX9_opened ∈ wl := in_wl (List.mem_append_right _ (List.mem_of_getElem? (i := 871) (by decide +kernel))) rfl
theorem ml__law_129 : Cond.methodLink R_law 129 yX10_opened ∈ wl := in_wl (List.mem_append_right _ (List.mem_of_getElem? (i := 1328) (by decide +kernel))) rfl
theorem ml__law_130 : Cond.methodLink R_law 130 yX9_most ∈ wl := in_wl (List.mem_append_right _ (List.mem_of_getElem? (i := 879) (by decide +kernel))) rfl
theorem ml__law_133 : Cond.methodLink R_law 133 yX10_most ∈ wl := in_wl (List.mem_append_right _ (List.mem_of_getElem? (i := 1340) (by decide +kernel))) rfl
theorem ml__law_134 : Cond.methodLink R_law 134 yX9_fewest ∈ wl := in_wl (List.mem_append_right _ (List.mem_of_getElem? (i := 883) (by decide +kernel))) rfl
theorem ml__law_137 : Cond.methodLink R_law 137 yX10_fewest ∈ wl := in_wl (List.mem_append_right _ (List.mem_of_getElem? (i := 1344) (by decide +kernel))) rfl
theorem ml__law_138 : Cond.methodLink R_law 138 yX9_wider ∈ wl := in_wl (List.mem_append_right _ (List.mem_of_getElem? (i := 892) (by decide +kernel))) rfl
theorem ml__law_141 : Cond.methodLink R_law 141 yX10_wider ∈ wl := in_wl (List.mem_append_right _ (List.mem_of_getElem? (i := 1352) (by decide +kernel))) rfl
theorem ml__law_43 : Cond.methodLink R_law 43 yX9_never ∈ wl := in_wl (List.mem_append_right _ (List.mem_of_getElem? (i := 487) (by decide +kernel))) rfl
theorem ml__law_47 : Cond.methodLink R_law 47 yX10_never ∈ wl := in_wl (List.mem_append_right _ (List.mem_of_getElem? (i := 1125) (by decide +kernel))) rfl
theorem nw__law_7 : Cond.classLink R_law 7 RX9 ∈ wl ∧ Cond.instantiable RX9 11 ∈ wl ∧ Cond.initialized RX9 ∈ wl := ⟨in_wl (List.mem_append_right _ (List.mem_of_getElem? (i := 19) (by decide +kernel))) rfl, in_wl (List.mem_append_right _ (List.mem_of_getElem? (i := 20) (by decide +kernel))) rfl, in_wl (List.mem_append_right _ (List.mem_of_getElem? (i := 1) (by decide +kernel))) rfl⟩
theorem nw__law_10 : Cond.classLink R_law 10 RX10 ∈ wl ∧ Cond.instantiable RX10 59 ∈ wl ∧ Cond.initialized RX10 ∈ wl := ⟨in_wl (List.mem_append_right _ (List.mem_of_getElem? (i := 896) (by decide +kernel))) rfl, in_wl (List.mem_append_right _ (List.mem_of_getElem? (i := 897) (by decide +kernel))) rfl, in_wl (List.mem_append_right _ (List.mem_of_getElem? (i := 12) (by decide +kernel))) rfl⟩
theorem ml_law_9 : Cond.methodLink R_law 9 yX9_init ∈ wl := in_wl (List.mem_append_right _ (List.mem_of_getElem? (i := 21) (by decide +kernel))) rfl
theorem ml_law_12 : Cond.methodLink R_law 12 yX10_init ∈ wl := in_wl (List.mem_append_right _ (List.mem_of_getElem? (i := 898) (by decide +kernel))) rfl
def lw_P (b : Addr) (xs : List Int32) (args : Array Value) (s : State) : Prop := args = #[.ref b] ∧ s.IntsAt b xs ∧ xs.length ≤ 2048 ∧ (Jvm.Cond.and given_1 narrow_1).before args s = true
def lw_Q (_ : Array Value) (s : State) (o : Outcome) (t : State) : Prop := o = .returned (some (.int 1)) ∧ Framed s o t [] 80 1927
def lw_Z (below : List Frame) (a : Array Value) (s : State) : State → Prop := fun t => ∃ o, t.status = .running ∧ Ended t below o ∧ lw_Q a s o t
/-- the law's own end, with 1 on the stack, nothing written that was there before, its room as the claim has it -/
theorem lw_ret {p : Program} {l : Launch} {e : Env} {s : State} {m : MethodId} {below : List Frame} {meth : Method} {c : Code} {b : Nat} (hx : p.tables.exec = Jvm.exec) (hb : c.code = code) (hr : meth.sig.returnType = ret) (hlocks : meth.locks = false) {pc : Nat} {H : Heap} {ls : Array Slot} (hdg : decode code pc = .ok (.ireturn, 1)) : W p l e room_1 s m #[Value.ref b] below meth c H [] 80 1927 (lw_Z below #[Value.ref b] s) (F0 m pc ls [.int 1]) := by
  intro T hT X
  obtain ⟨fs, hret, hrun, hended, hW, hframe⟩ := X.leave (v := some (.int 1)) (hlocks := hlocks) (fun h => by rw [hr] at h; cases h)
  have hmeth' : T.vm.method? m = some meth := X.method'
  refine ⟨T.setFrames fs, ?_, .returned (some (.int 1)), hrun, hended, rfl, ⟨_, rfl⟩, hW, hframe⟩
  jvm_step X.here [X.here.top, hx, hb, hdg, hmeth', hr, ret, narrow_b1]
  (try refine ⟨rfl, ?_⟩); (try refine ⟨rfl, ?_⟩)
  first | (intro acts; rw [hret _ acts rfl rfl rfl]) | rw [hret _ _ rfl rfl rfl]
  exact Steps.refl _
/-- what holds at the law's entry: the machine, the code, the tables' words (any of lw_tbl by 'hts w (by decide +kernel)'), the script of L ints xs at the cell b, what the Statement gives of the start (any of its parts by flat_of_before) -/
def lw_At (p : Program) (s : State) (m : MethodId) (meth : Method) (c : Code) (b L : Nat) (xs : Nat → Int32) : Prop :=
  p.tables.exec = Jvm.exec ∧ c.code = code ∧ meth.sig.returnType = ret ∧ c.maxLocals = 4 ∧ s.vm.findClass R_law = some m.cls ∧ (∀ w ∈ lw_tbl, w.before #[Value.ref b] s = true) ∧ va_X b L xs s s.heap ∧ b < s.heap.size ∧ meth.locks = false ∧ (Jvm.Cond.and given_1 narrow_1).before #[Value.ref b] s = true
/-! the law's own rows: the script, and its end -/
def LawR (Γ : Cxt) (L : Nat) (xs : Nat → Int32) : Prop :=
  match Γ with
  | ((_, _, _, R, s, _), (args, below, meth, _), (_, _, _, ad), (_, k0, n0), Qf) => va_X (ad 87) L xs s s.heap ∧ ad 87 < s.heap.size ∧ (∀ a, A0 ad a → s.heap.size ≤ a) ∧ meth.sig.returnType = ret ∧ args = #[Value.ref (ad 87)] ∧ Qf = lw_Z below #[Value.ref (ad 87)] s ∧ R = room_1 ∧ k0 = 80 ∧ n0 = 1927
section LAW
variable {Γ : Cxt} {own : String} {cc : ByteArray} {n : Nat} {rm : Room} {pc : Nat} {lv : List (Nat × Value)} {st : List Value} {X : XT} {Y : YT} {L : Nat} {xs : Nat → Int32}
theorem v_slen (O : Ok Γ own cc n rm) (r : LawR Γ L xs) (d : decode cc pc = .ok (.arraylength, 1)) (k : V Γ (pc + 1) lv (.int (nI L) :: st) X Y) : V Γ pc lv (.ref 87 :: st) X Y := by
  obtain ⟨⟨p, l, e, R, s, m⟩, ⟨args, below, meth, c⟩, ⟨D, cI, cL, ad⟩, ⟨nL, k0, n0⟩, Qf⟩ := Γ
  exact fun H locs ls hP hS hl => va_slen O.1.1 O.1.2.1 r.1 r.2.1 (fun h => absurd r.2.1 (Nat.not_lt.mpr (r.2.2.1 _ h))) hS d (k H locs ls hP hS hl)
theorem v_sld {i : Int32} (O : Ok Γ own cc n rm) (r : LawR Γ L xs) (d : decode cc pc = .ok (.iaload, 1)) (hi : vp_in i L) (k : V Γ (pc + 1) lv (.int (xs i.toNatClampNeg) :: st) X Y) : V Γ pc lv (.int i :: .ref 87 :: st) X Y := by
  obtain ⟨⟨p, l, e, R, s, m⟩, ⟨args, below, meth, c⟩, ⟨D, cI, cL, ad⟩, ⟨nL, k0, n0⟩, Qf⟩ := Γ
  exact fun H locs ls hP hS hl => va_sld O.1.1 O.1.2.1 r.1 r.2.1 (fun h => absurd r.2.1 (Nat.not_lt.mpr (r.2.2.1 _ h))) hS hi d (k H locs ls hP hS hl)
theorem v_lawret (O : Ok Γ own code n rm) (r : LawR Γ L xs) (d : decode code pc = .ok (.ireturn, 1)) : V Γ pc lv [.int 1] X Y := by
  obtain ⟨⟨p, l, e, R, s, m⟩, ⟨args, below, meth, c⟩, ⟨D, cI, cL, ad⟩, ⟨nL, k0, n0⟩, Qf⟩ := Γ
  obtain ⟨r1, r2, r3, r4, r5, r6, r7, r8, r9⟩ := r
  have r5 : args = _ := r5
  have r6 : Qf = _ := r6
  have r7 : R = _ := r7
  have r8 : k0 = _ := r8
  have r9 : n0 = _ := r9
  subst r5 r6 r7 r8 r9
  exact fun H locs ls hP hS hl => va_forget (fun q hq => r3 _ (hS.2.2 q hq)) (lw_ret O.1.1 O.1.2.1 r4 O.2.1 d)
end LAW
theorem dL_law_18 : decode code 18 = .ok (.iload_n 3, 1) := by decide +kernel
theorem dL_law_19 : decode code 19 = .ok (.aload_n 0, 1) := by decide +kernel
theorem dL_law_20 : decode code 20 = .ok (.arraylength, 1) := by decide +kernel
theorem dL_law_21 : decode code 21 = .ok (.iconst 4, 1) := by decide +kernel
theorem dL_law_22 : decode code 22 = .ok (.isub, 1) := by decide +kernel
theorem dL_law_23 : decode code 23 = .ok (.if_icmp .gt 1008, 3) := by decide +kernel
theorem dL_law_26 : decode code 26 = .ok (.aload_n 0, 1) := by decide +kernel
theorem dL_law_27 : decode code 27 = .ok (.iload_n 3, 1) := by decide +kernel
theorem dL_law_28 : decode code 28 = .ok (.iaload, 1) := by decide +kernel
theorem dL_law_29 : decode code 29 = .ok (.bipush 31, 2) := by decide +kernel
theorem dL_law_31 : decode code 31 = .ok (.iand, 1) := by decide +kernel
theorem dL_law_32 : decode code 32 = .ok (.tableswitch 993 0 29 #[136, 179, 242, 255, 288, 331, 364, 423, 446, 479, 502, 515, 528, 561, 594, 607, 640, 663, 686, 730, 753, 786, 829, 852, 885, 908, 931, 954, 967, 980], 136) := by decide +kernel
theorem dL_law_168 : decode code 168 = .ok (.aload_n 1, 1) := by decide +kernel
theorem dL_law_169 : decode code 169 = .ok (.aload_n 0, 1) := by decide +kernel
theorem dL_law_170 : decode code 170 = .ok (.iload_n 3, 1) := by decide +kernel
theorem dL_law_171 : decode code 171 = .ok (.iconst 1, 1) := by decide +kernel
theorem dL_law_172 : decode code 172 = .ok (.iadd, 1) := by decide +kernel
theorem dL_law_173 : decode code 173 = .ok (.iaload, 1) := by decide +kernel
theorem dL_law_174 : decode code 174 = .ok (.aload_n 0, 1) := by decide +kernel
theorem dL_law_175 : decode code 175 = .ok (.iload_n 3, 1) := by decide +kernel
theorem dL_law_176 : decode code 176 = .ok (.iconst 2, 1) := by decide +kernel
theorem dL_law_177 : decode code 177 = .ok (.iadd, 1) := by decide +kernel
theorem dL_law_178 : decode code 178 = .ok (.iaload, 1) := by decide +kernel
theorem dL_law_179 : decode code 179 = .ok (.aload_n 0, 1) := by decide +kernel
theorem dL_law_180 : decode code 180 = .ok (.iload_n 3, 1) := by decide +kernel
theorem dL_law_181 : decode code 181 = .ok (.iconst 3, 1) := by decide +kernel
theorem dL_law_182 : decode code 182 = .ok (.iadd, 1) := by decide +kernel
theorem dL_law_183 : decode code 183 = .ok (.iaload, 1) := by decide +kernel
theorem dL_law_184 : decode code 184 = .ok (.invokevirtual 13, 3) := by decide +kernel
theorem dL_law_187 : decode code 187 = .ok (.aload_n 2, 1) := by decide +kernel
theorem dL_law_188 : decode code 188 = .ok (.aload_n 0, 1) := by decide +kernel
theorem dL_law_189 : decode code 189 = .ok (.iload_n 3, 1) := by decide +kernel
theorem dL_law_190 : decode code 190 = .ok (.iconst 1, 1) := by decide +kernel
theorem dL_law_191 : decode code 191 = .ok (.iadd, 1) := by decide +kernel
theorem dL_law_192 : decode code 192 = .ok (.iaload, 1) := by decide +kernel
theorem dL_law_193 : decode code 193 = .ok (.aload_n 0, 1) := by decide +kernel
theorem dL_law_194 : decode code 194 = .ok (.iload_n 3, 1) := by decide +kernel
theorem dL_law_195 : decode code 195 = .ok (.iconst 2, 1) := by decide +kernel
theorem dL_law_196 : decode code 196 = .ok (.iadd, 1) := by decide +kernel
theorem dL_law_197 : decode code 197 = .ok (.iaload, 1) := by decide +kernel
theorem dL_law_198 : decode code 198 = .ok (.aload_n 0, 1) := by decide +kernel
theorem dL_law_199 : decode code 199 = .ok (.iload_n 3, 1) := by decide +kernel
theorem dL_law_200 : decode code 200 = .ok (.iconst 3, 1) := by decide +kernel
theorem dL_law_201 : decode code 201 = .ok (.iadd, 1) := by decide +kernel
theorem dL_law_202 : decode code 202 = .ok (.iaload, 1) := by decide +kernel
theorem dL_law_203 : decode code 203 = .ok (.invokevirtual 17, 3) := by decide +kernel
theorem dL_law_206 : decode code 206 = .ok (.if_icmp .eq 819, 3) := by decide +kernel
theorem dL_law_209 : decode code 209 = .ok (.iconst 0, 1) := by decide +kernel
theorem dL_law_210 : decode code 210 = .ok (.ireturn, 1) := by decide +kernel
theorem dL_law_211 : decode code 211 = .ok (.aload_n 1, 1) := by decide +kernel
theorem dL_law_212 : decode code 212 = .ok (.aload_n 0, 1) := by decide +kernel
theorem dL_law_213 : decode code 213 = .ok (.iload_n 3, 1) := by decide +kernel
theorem dL_law_214 : decode code 214 = .ok (.iconst 1, 1) := by decide +kernel
theorem dL_law_215 : decode code 215 = .ok (.iadd, 1) := by decide +kernel
theorem dL_law_216 : decode code 216 = .ok (.iaload, 1) := by decide +kernel
theorem dL_law_217 : decode code 217 = .ok (.aload_n 0, 1) := by decide +kernel
theorem dL_law_218 : decode code 218 = .ok (.iload_n 3, 1) := by decide +kernel
theorem dL_law_219 : decode code 219 = .ok (.iconst 2, 1) := by decide +kernel
theorem dL_law_220 : decode code 220 = .ok (.iadd, 1) := by decide +kernel
theorem dL_law_221 : decode code 221 = .ok (.iaload, 1) := by decide +kernel
theorem dL_law_222 : decode code 222 = .ok (.i2l, 1) := by decide +kernel
theorem dL_law_223 : decode code 223 = .ok (.bipush 32, 2) := by decide +kernel
theorem dL_law_225 : decode code 225 = .ok (.lshl, 1) := by decide +kernel
theorem dL_law_226 : decode code 226 = .ok (.aload_n 0, 1) := by decide +kernel
theorem dL_law_227 : decode code 227 = .ok (.iload_n 3, 1) := by decide +kernel
theorem dL_law_228 : decode code 228 = .ok (.iconst 3, 1) := by decide +kernel
theorem dL_law_229 : decode code 229 = .ok (.iadd, 1) := by decide +kernel
theorem dL_law_230 : decode code 230 = .ok (.iaload, 1) := by decide +kernel
theorem dL_law_231 : decode code 231 = .ok (.i2l, 1) := by decide +kernel
theorem dL_law_232 : decode code 232 = .ok (.ldc2_w 18, 3) := by decide +kernel
theorem dL_law_235 : decode code 235 = .ok (.land, 1) := by decide +kernel
theorem dL_law_236 : decode code 236 = .ok (.lor, 1) := by decide +kernel
theorem dL_law_237 : decode code 237 = .ok (.invokevirtual 20, 3) := by decide +kernel
theorem dL_law_240 : decode code 240 = .ok (.aload_n 2, 1) := by decide +kernel
theorem dL_law_241 : decode code 241 = .ok (.aload_n 0, 1) := by decide +kernel
theorem dL_law_242 : decode code 242 = .ok (.iload_n 3, 1) := by decide +kernel
theorem dL_law_243 : decode code 243 = .ok (.iconst 1, 1) := by decide +kernel
theorem dL_law_244 : decode code 244 = .ok (.iadd, 1) := by decide +kernel
theorem dL_law_245 : decode code 245 = .ok (.iaload, 1) := by decide +kernel
theorem dL_law_246 : decode code 246 = .ok (.aload_n 0, 1) := by decide +kernel
theorem dL_law_247 : decode code 247 = .ok (.iload_n 3, 1) := by decide +kernel
theorem dL_law_248 : decode code 248 = .ok (.iconst 2, 1) := by decide +kernel
theorem dL_law_249 : decode code 249 = .ok (.iadd, 1) := by decide +kernel
theorem dL_law_250 : decode code 250 = .ok (.iaload, 1) := by decide +kernel
theorem dL_law_251 : decode code 251 = .ok (.i2l, 1) := by decide +kernel
theorem dL_law_252 : decode code 252 = .ok (.bipush 32, 2) := by decide +kernel
theorem dL_law_254 : decode code 254 = .ok (.lshl, 1) := by decide +kernel
theorem dL_law_255 : decode code 255 = .ok (.aload_n 0, 1) := by decide +kernel
theorem dL_law_256 : decode code 256 = .ok (.iload_n 3, 1) := by decide +kernel
theorem dL_law_257 : decode code 257 = .ok (.iconst 3, 1) := by decide +kernel
theorem dL_law_258 : decode code 258 = .ok (.iadd, 1) := by decide +kernel
theorem dL_law_259 : decode code 259 = .ok (.iaload, 1) := by decide +kernel
theorem dL_law_260 : decode code 260 = .ok (.i2l, 1) := by decide +kernel
theorem dL_law_261 : decode code 261 = .ok (.ldc2_w 18, 3) := by decide +kernel
theorem dL_law_264 : decode code 264 = .ok (.land, 1) := by decide +kernel
theorem dL_law_265 : decode code 265 = .ok (.lor, 1) := by decide +kernel
theorem dL_law_266 : decode code 266 = .ok (.invokevirtual 24, 3) := by decide +kernel
theorem dL_law_269 : decode code 269 = .ok (.if_icmp .eq 756, 3) := by decide +kernel
theorem dL_law_272 : decode code 272 = .ok (.iconst 0, 1) := by decide +kernel
theorem dL_law_273 : decode code 273 = .ok (.ireturn, 1) := by decide +kernel
theorem dL_law_274 : decode code 274 = .ok (.aload_n 1, 1) := by decide +kernel
theorem dL_law_275 : decode code 275 = .ok (.invokevirtual 25, 3) := by decide +kernel
theorem dL_law_278 : decode code 278 = .ok (.aload_n 2, 1) := by decide +kernel
theorem dL_law_279 : decode code 279 = .ok (.invokevirtual 29, 3) := by decide +kernel
theorem dL_law_282 : decode code 282 = .ok (.if_icmp .eq 743, 3) := by decide +kernel
theorem dL_law_285 : decode code 285 = .ok (.iconst 0, 1) := by decide +kernel
theorem dL_law_286 : decode code 286 = .ok (.ireturn, 1) := by decide +kernel
theorem dL_law_287 : decode code 287 = .ok (.aload_n 1, 1) := by decide +kernel
theorem dL_law_288 : decode code 288 = .ok (.aload_n 0, 1) := by decide +kernel
theorem dL_law_289 : decode code 289 = .ok (.iload_n 3, 1) := by decide +kernel
theorem dL_law_290 : decode code 290 = .ok (.iconst 1, 1) := by decide +kernel
theorem dL_law_291 : decode code 291 = .ok (.iadd, 1) := by decide +kernel
theorem dL_law_292 : decode code 292 = .ok (.iaload, 1) := by decide +kernel
theorem dL_law_293 : decode code 293 = .ok (.aload_n 0, 1) := by decide +kernel
theorem dL_law_294 : decode code 294 = .ok (.iload_n 3, 1) := by decide +kernel
theorem dL_law_295 : decode code 295 = .ok (.iconst 2, 1) := by decide +kernel
theorem dL_law_296 : decode code 296 = .ok (.iadd, 1) := by decide +kernel
theorem dL_law_297 : decode code 297 = .ok (.iaload, 1) := by decide +kernel
theorem dL_law_298 : decode code 298 = .ok (.invokevirtual 30, 3) := by decide +kernel
theorem dL_law_301 : decode code 301 = .ok (.aload_n 2, 1) := by decide +kernel
theorem dL_law_302 : decode code 302 = .ok (.aload_n 0, 1) := by decide +kernel
theorem dL_law_303 : decode code 303 = .ok (.iload_n 3, 1) := by decide +kernel
theorem dL_law_304 : decode code 304 = .ok (.iconst 1, 1) := by decide +kernel
theorem dL_law_305 : decode code 305 = .ok (.iadd, 1) := by decide +kernel
theorem dL_law_306 : decode code 306 = .ok (.iaload, 1) := by decide +kernel
theorem dL_law_307 : decode code 307 = .ok (.aload_n 0, 1) := by decide +kernel
theorem dL_law_308 : decode code 308 = .ok (.iload_n 3, 1) := by decide +kernel
theorem dL_law_309 : decode code 309 = .ok (.iconst 2, 1) := by decide +kernel
theorem dL_law_310 : decode code 310 = .ok (.iadd, 1) := by decide +kernel
theorem dL_law_311 : decode code 311 = .ok (.iaload, 1) := by decide +kernel
theorem dL_law_312 : decode code 312 = .ok (.invokevirtual 34, 3) := by decide +kernel
theorem dL_law_315 : decode code 315 = .ok (.if_icmp .eq 710, 3) := by decide +kernel
theorem dL_law_318 : decode code 318 = .ok (.iconst 0, 1) := by decide +kernel
theorem dL_law_319 : decode code 319 = .ok (.ireturn, 1) := by decide +kernel
theorem dL_law_320 : decode code 320 = .ok (.aload_n 1, 1) := by decide +kernel
theorem dL_law_321 : decode code 321 = .ok (.aload_n 0, 1) := by decide +kernel
theorem dL_law_322 : decode code 322 = .ok (.iload_n 3, 1) := by decide +kernel
theorem dL_law_323 : decode code 323 = .ok (.iconst 1, 1) := by decide +kernel
theorem dL_law_324 : decode code 324 = .ok (.iadd, 1) := by decide +kernel
theorem dL_law_325 : decode code 325 = .ok (.iaload, 1) := by decide +kernel
theorem dL_law_326 : decode code 326 = .ok (.aload_n 0, 1) := by decide +kernel
theorem dL_law_327 : decode code 327 = .ok (.iload_n 3, 1) := by decide +kernel
theorem dL_law_328 : decode code 328 = .ok (.iconst 2, 1) := by decide +kernel
theorem dL_law_329 : decode code 329 = .ok (.iadd, 1) := by decide +kernel
theorem dL_law_330 : decode code 330 = .ok (.iaload, 1) := by decide +kernel
theorem dL_law_331 : decode code 331 = .ok (.aload_n 0, 1) := by decide +kernel
theorem dL_law_332 : decode code 332 = .ok (.iload_n 3, 1) := by decide +kernel
theorem dL_law_333 : decode code 333 = .ok (.iconst 3, 1) := by decide +kernel
theorem dL_law_334 : decode code 334 = .ok (.iadd, 1) := by decide +kernel
theorem dL_law_335 : decode code 335 = .ok (.iaload, 1) := by decide +kernel
theorem dL_law_336 : decode code 336 = .ok (.invokevirtual 35, 3) := by decide +kernel
theorem dL_law_339 : decode code 339 = .ok (.aload_n 2, 1) := by decide +kernel
theorem dL_law_340 : decode code 340 = .ok (.aload_n 0, 1) := by decide +kernel
theorem dL_law_341 : decode code 341 = .ok (.iload_n 3, 1) := by decide +kernel
theorem dL_law_342 : decode code 342 = .ok (.iconst 1, 1) := by decide +kernel
theorem dL_law_343 : decode code 343 = .ok (.iadd, 1) := by decide +kernel
theorem dL_law_344 : decode code 344 = .ok (.iaload, 1) := by decide +kernel
theorem dL_law_345 : decode code 345 = .ok (.aload_n 0, 1) := by decide +kernel
theorem dL_law_346 : decode code 346 = .ok (.iload_n 3, 1) := by decide +kernel
theorem dL_law_347 : decode code 347 = .ok (.iconst 2, 1) := by decide +kernel
theorem dL_law_348 : decode code 348 = .ok (.iadd, 1) := by decide +kernel
theorem dL_law_349 : decode code 349 = .ok (.iaload, 1) := by decide +kernel
theorem dL_law_350 : decode code 350 = .ok (.aload_n 0, 1) := by decide +kernel
theorem dL_law_351 : decode code 351 = .ok (.iload_n 3, 1) := by decide +kernel
theorem dL_law_352 : decode code 352 = .ok (.iconst 3, 1) := by decide +kernel
theorem dL_law_353 : decode code 353 = .ok (.iadd, 1) := by decide +kernel
theorem dL_law_354 : decode code 354 = .ok (.iaload, 1) := by decide +kernel
theorem dL_law_355 : decode code 355 = .ok (.invokevirtual 38, 3) := by decide +kernel
theorem dL_law_358 : decode code 358 = .ok (.if_icmp .eq 667, 3) := by decide +kernel
theorem dL_law_361 : decode code 361 = .ok (.iconst 0, 1) := by decide +kernel
theorem dL_law_362 : decode code 362 = .ok (.ireturn, 1) := by decide +kernel
theorem dL_law_363 : decode code 363 = .ok (.aload_n 1, 1) := by decide +kernel
theorem dL_law_364 : decode code 364 = .ok (.aload_n 0, 1) := by decide +kernel
theorem dL_law_365 : decode code 365 = .ok (.iload_n 3, 1) := by decide +kernel
theorem dL_law_366 : decode code 366 = .ok (.iconst 1, 1) := by decide +kernel
theorem dL_law_367 : decode code 367 = .ok (.iadd, 1) := by decide +kernel
theorem dL_law_368 : decode code 368 = .ok (.iaload, 1) := by decide +kernel
theorem dL_law_369 : decode code 369 = .ok (.aload_n 0, 1) := by decide +kernel
theorem dL_law_370 : decode code 370 = .ok (.iload_n 3, 1) := by decide +kernel
theorem dL_law_371 : decode code 371 = .ok (.iconst 2, 1) := by decide +kernel
theorem dL_law_372 : decode code 372 = .ok (.iadd, 1) := by decide +kernel
theorem dL_law_373 : decode code 373 = .ok (.iaload, 1) := by decide +kernel
theorem dL_law_374 : decode code 374 = .ok (.invokevirtual 39, 3) := by decide +kernel
theorem dL_law_377 : decode code 377 = .ok (.aload_n 2, 1) := by decide +kernel
theorem dL_law_378 : decode code 378 = .ok (.aload_n 0, 1) := by decide +kernel
theorem dL_law_379 : decode code 379 = .ok (.iload_n 3, 1) := by decide +kernel
theorem dL_law_380 : decode code 380 = .ok (.iconst 1, 1) := by decide +kernel
theorem dL_law_381 : decode code 381 = .ok (.iadd, 1) := by decide +kernel
theorem dL_law_382 : decode code 382 = .ok (.iaload, 1) := by decide +kernel
theorem dL_law_383 : decode code 383 = .ok (.aload_n 0, 1) := by decide +kernel
theorem dL_law_384 : decode code 384 = .ok (.iload_n 3, 1) := by decide +kernel
theorem dL_law_385 : decode code 385 = .ok (.iconst 2, 1) := by decide +kernel
theorem dL_law_386 : decode code 386 = .ok (.iadd, 1) := by decide +kernel
theorem dL_law_387 : decode code 387 = .ok (.iaload, 1) := by decide +kernel
theorem dL_law_388 : decode code 388 = .ok (.invokevirtual 42, 3) := by decide +kernel
theorem dL_law_391 : decode code 391 = .ok (.if_icmp .eq 634, 3) := by decide +kernel
theorem dL_law_394 : decode code 394 = .ok (.iconst 0, 1) := by decide +kernel
theorem dL_law_395 : decode code 395 = .ok (.ireturn, 1) := by decide +kernel
theorem dL_law_396 : decode code 396 = .ok (.aload_n 1, 1) := by decide +kernel
theorem dL_law_397 : decode code 397 = .ok (.aload_n 0, 1) := by decide +kernel
theorem dL_law_398 : decode code 398 = .ok (.iload_n 3, 1) := by decide +kernel
theorem dL_law_399 : decode code 399 = .ok (.iconst 1, 1) := by decide +kernel
theorem dL_law_400 : decode code 400 = .ok (.iadd, 1) := by decide +kernel
theorem dL_law_401 : decode code 401 = .ok (.iaload, 1) := by decide +kernel
theorem dL_law_402 : decode code 402 = .ok (.aload_n 0, 1) := by decide +kernel
theorem dL_law_403 : decode code 403 = .ok (.iload_n 3, 1) := by decide +kernel
theorem dL_law_404 : decode code 404 = .ok (.iconst 2, 1) := by decide +kernel
theorem dL_law_405 : decode code 405 = .ok (.iadd, 1) := by decide +kernel
theorem dL_law_406 : decode code 406 = .ok (.iaload, 1) := by decide +kernel
theorem dL_law_407 : decode code 407 = .ok (.aload_n 0, 1) := by decide +kernel
theorem dL_law_408 : decode code 408 = .ok (.iload_n 3, 1) := by decide +kernel
theorem dL_law_409 : decode code 409 = .ok (.iconst 3, 1) := by decide +kernel
theorem dL_law_410 : decode code 410 = .ok (.iadd, 1) := by decide +kernel
theorem dL_law_411 : decode code 411 = .ok (.iaload, 1) := by decide +kernel
theorem dL_law_412 : decode code 412 = .ok (.ifCond .eq 7, 3) := by decide +kernel
theorem dL_law_415 : decode code 415 = .ok (.iconst 1, 1) := by decide +kernel
theorem dL_law_416 : decode code 416 = .ok (.goto 4, 3) := by decide +kernel
theorem dL_law_419 : decode code 419 = .ok (.iconst 0, 1) := by decide +kernel
theorem dL_law_420 : decode code 420 = .ok (.invokevirtual 43, 3) := by decide +kernel
theorem dL_law_423 : decode code 423 = .ok (.aload_n 2, 1) := by decide +kernel
theorem dL_law_424 : decode code 424 = .ok (.aload_n 0, 1) := by decide +kernel
theorem dL_law_425 : decode code 425 = .ok (.iload_n 3, 1) := by decide +kernel
theorem dL_law_426 : decode code 426 = .ok (.iconst 1, 1) := by decide +kernel
theorem dL_law_427 : decode code 427 = .ok (.iadd, 1) := by decide +kernel
theorem dL_law_428 : decode code 428 = .ok (.iaload, 1) := by decide +kernel
theorem dL_law_429 : decode code 429 = .ok (.aload_n 0, 1) := by decide +kernel
theorem dL_law_430 : decode code 430 = .ok (.iload_n 3, 1) := by decide +kernel
theorem dL_law_431 : decode code 431 = .ok (.iconst 2, 1) := by decide +kernel
theorem dL_law_432 : decode code 432 = .ok (.iadd, 1) := by decide +kernel
theorem dL_law_433 : decode code 433 = .ok (.iaload, 1) := by decide +kernel
theorem dL_law_434 : decode code 434 = .ok (.aload_n 0, 1) := by decide +kernel
theorem dL_law_435 : decode code 435 = .ok (.iload_n 3, 1) := by decide +kernel
theorem dL_law_436 : decode code 436 = .ok (.iconst 3, 1) := by decide +kernel
theorem dL_law_437 : decode code 437 = .ok (.iadd, 1) := by decide +kernel
theorem dL_law_438 : decode code 438 = .ok (.iaload, 1) := by decide +kernel
theorem dL_law_439 : decode code 439 = .ok (.ifCond .eq 7, 3) := by decide +kernel
theorem dL_law_442 : decode code 442 = .ok (.iconst 1, 1) := by decide +kernel
theorem dL_law_443 : decode code 443 = .ok (.goto 4, 3) := by decide +kernel
theorem dL_law_446 : decode code 446 = .ok (.iconst 0, 1) := by decide +kernel
theorem dL_law_447 : decode code 447 = .ok (.invokevirtual 47, 3) := by decide +kernel
theorem dL_law_450 : decode code 450 = .ok (.if_icmp .eq 575, 3) := by decide +kernel
theorem dL_law_453 : decode code 453 = .ok (.iconst 0, 1) := by decide +kernel
theorem dL_law_454 : decode code 454 = .ok (.ireturn, 1) := by decide +kernel
theorem dL_law_455 : decode code 455 = .ok (.aload_n 1, 1) := by decide +kernel
theorem dL_law_456 : decode code 456 = .ok (.aload_n 0, 1) := by decide +kernel
theorem dL_law_457 : decode code 457 = .ok (.iload_n 3, 1) := by decide +kernel
theorem dL_law_458 : decode code 458 = .ok (.iconst 1, 1) := by decide +kernel
theorem dL_law_459 : decode code 459 = .ok (.iadd, 1) := by decide +kernel
theorem dL_law_460 : decode code 460 = .ok (.iaload, 1) := by decide +kernel
theorem dL_law_461 : decode code 461 = .ok (.invokevirtual 48, 3) := by decide +kernel
theorem dL_law_464 : decode code 464 = .ok (.aload_n 2, 1) := by decide +kernel
theorem dL_law_465 : decode code 465 = .ok (.aload_n 0, 1) := by decide +kernel
theorem dL_law_466 : decode code 466 = .ok (.iload_n 3, 1) := by decide +kernel
theorem dL_law_467 : decode code 467 = .ok (.iconst 1, 1) := by decide +kernel
theorem dL_law_468 : decode code 468 = .ok (.iadd, 1) := by decide +kernel
theorem dL_law_469 : decode code 469 = .ok (.iaload, 1) := by decide +kernel
theorem dL_law_470 : decode code 470 = .ok (.invokevirtual 52, 3) := by decide +kernel
theorem dL_law_473 : decode code 473 = .ok (.if_icmp .eq 552, 3) := by decide +kernel
theorem dL_law_476 : decode code 476 = .ok (.iconst 0, 1) := by decide +kernel
theorem dL_law_477 : decode code 477 = .ok (.ireturn, 1) := by decide +kernel
theorem dL_law_478 : decode code 478 = .ok (.aload_n 1, 1) := by decide +kernel
theorem dL_law_479 : decode code 479 = .ok (.aload_n 0, 1) := by decide +kernel
theorem dL_law_480 : decode code 480 = .ok (.iload_n 3, 1) := by decide +kernel
theorem dL_law_481 : decode code 481 = .ok (.iconst 1, 1) := by decide +kernel
theorem dL_law_482 : decode code 482 = .ok (.iadd, 1) := by decide +kernel
theorem dL_law_483 : decode code 483 = .ok (.iaload, 1) := by decide +kernel
theorem dL_law_484 : decode code 484 = .ok (.aload_n 0, 1) := by decide +kernel
theorem dL_law_485 : decode code 485 = .ok (.iload_n 3, 1) := by decide +kernel
theorem dL_law_486 : decode code 486 = .ok (.iconst 2, 1) := by decide +kernel
theorem dL_law_487 : decode code 487 = .ok (.iadd, 1) := by decide +kernel
theorem dL_law_488 : decode code 488 = .ok (.iaload, 1) := by decide +kernel
theorem dL_law_489 : decode code 489 = .ok (.invokevirtual 53, 3) := by decide +kernel
theorem dL_law_492 : decode code 492 = .ok (.aload_n 2, 1) := by decide +kernel
theorem dL_law_493 : decode code 493 = .ok (.aload_n 0, 1) := by decide +kernel
theorem dL_law_494 : decode code 494 = .ok (.iload_n 3, 1) := by decide +kernel
theorem dL_law_495 : decode code 495 = .ok (.iconst 1, 1) := by decide +kernel
theorem dL_law_496 : decode code 496 = .ok (.iadd, 1) := by decide +kernel
theorem dL_law_497 : decode code 497 = .ok (.iaload, 1) := by decide +kernel
theorem dL_law_498 : decode code 498 = .ok (.aload_n 0, 1) := by decide +kernel
theorem dL_law_499 : decode code 499 = .ok (.iload_n 3, 1) := by decide +kernel
theorem dL_law_500 : decode code 500 = .ok (.iconst 2, 1) := by decide +kernel
theorem dL_law_501 : decode code 501 = .ok (.iadd, 1) := by decide +kernel
theorem dL_law_502 : decode code 502 = .ok (.iaload, 1) := by decide +kernel
theorem dL_law_503 : decode code 503 = .ok (.invokevirtual 56, 3) := by decide +kernel
theorem dL_law_506 : decode code 506 = .ok (.if_icmp .eq 519, 3) := by decide +kernel
theorem dL_law_509 : decode code 509 = .ok (.iconst 0, 1) := by decide +kernel
theorem dL_law_510 : decode code 510 = .ok (.ireturn, 1) := by decide +kernel
theorem dL_law_511 : decode code 511 = .ok (.aload_n 1, 1) := by decide +kernel
theorem dL_law_512 : decode code 512 = .ok (.aload_n 0, 1) := by decide +kernel
theorem dL_law_513 : decode code 513 = .ok (.iload_n 3, 1) := by decide +kernel
theorem dL_law_514 : decode code 514 = .ok (.iconst 1, 1) := by decide +kernel
theorem dL_law_515 : decode code 515 = .ok (.iadd, 1) := by decide +kernel
theorem dL_law_516 : decode code 516 = .ok (.iaload, 1) := by decide +kernel
theorem dL_law_517 : decode code 517 = .ok (.invokevirtual 57, 3) := by decide +kernel
theorem dL_law_520 : decode code 520 = .ok (.aload_n 2, 1) := by decide +kernel
theorem dL_law_521 : decode code 521 = .ok (.aload_n 0, 1) := by decide +kernel
theorem dL_law_522 : decode code 522 = .ok (.iload_n 3, 1) := by decide +kernel
theorem dL_law_523 : decode code 523 = .ok (.iconst 1, 1) := by decide +kernel
theorem dL_law_524 : decode code 524 = .ok (.iadd, 1) := by decide +kernel
theorem dL_law_525 : decode code 525 = .ok (.iaload, 1) := by decide +kernel
theorem dL_law_526 : decode code 526 = .ok (.invokevirtual 60, 3) := by decide +kernel
theorem dL_law_529 : decode code 529 = .ok (.if_icmp .eq 496, 3) := by decide +kernel
theorem dL_law_532 : decode code 532 = .ok (.iconst 0, 1) := by decide +kernel
theorem dL_law_533 : decode code 533 = .ok (.ireturn, 1) := by decide +kernel
theorem dL_law_534 : decode code 534 = .ok (.aload_n 1, 1) := by decide +kernel
theorem dL_law_535 : decode code 535 = .ok (.invokevirtual 61, 3) := by decide +kernel
theorem dL_law_538 : decode code 538 = .ok (.aload_n 2, 1) := by decide +kernel
theorem dL_law_539 : decode code 539 = .ok (.invokevirtual 64, 3) := by decide +kernel
theorem dL_law_542 : decode code 542 = .ok (.if_icmp .eq 483, 3) := by decide +kernel
theorem dL_law_545 : decode code 545 = .ok (.iconst 0, 1) := by decide +kernel
theorem dL_law_546 : decode code 546 = .ok (.ireturn, 1) := by decide +kernel
theorem dL_law_547 : decode code 547 = .ok (.aload_n 1, 1) := by decide +kernel
theorem dL_law_548 : decode code 548 = .ok (.invokevirtual 65, 3) := by decide +kernel
theorem dL_law_551 : decode code 551 = .ok (.aload_n 2, 1) := by decide +kernel
theorem dL_law_552 : decode code 552 = .ok (.invokevirtual 68, 3) := by decide +kernel
theorem dL_law_555 : decode code 555 = .ok (.if_icmp .eq 470, 3) := by decide +kernel
theorem dL_law_558 : decode code 558 = .ok (.iconst 0, 1) := by decide +kernel
theorem dL_law_559 : decode code 559 = .ok (.ireturn, 1) := by decide +kernel
theorem dL_law_560 : decode code 560 = .ok (.aload_n 1, 1) := by decide +kernel
theorem dL_law_561 : decode code 561 = .ok (.aload_n 0, 1) := by decide +kernel
theorem dL_law_562 : decode code 562 = .ok (.iload_n 3, 1) := by decide +kernel
theorem dL_law_563 : decode code 563 = .ok (.iconst 1, 1) := by decide +kernel
theorem dL_law_564 : decode code 564 = .ok (.iadd, 1) := by decide +kernel
theorem dL_law_565 : decode code 565 = .ok (.iaload, 1) := by decide +kernel
theorem dL_law_566 : decode code 566 = .ok (.aload_n 0, 1) := by decide +kernel
theorem dL_law_567 : decode code 567 = .ok (.iload_n 3, 1) := by decide +kernel
theorem dL_law_568 : decode code 568 = .ok (.iconst 2, 1) := by decide +kernel
theorem dL_law_569 : decode code 569 = .ok (.iadd, 1) := by decide +kernel
theorem dL_law_570 : decode code 570 = .ok (.iaload, 1) := by decide +kernel
theorem dL_law_571 : decode code 571 = .ok (.invokevirtual 69, 3) := by decide +kernel
theorem dL_law_574 : decode code 574 = .ok (.aload_n 2, 1) := by decide +kernel
theorem dL_law_575 : decode code 575 = .ok (.aload_n 0, 1) := by decide +kernel
theorem dL_law_576 : decode code 576 = .ok (.iload_n 3, 1) := by decide +kernel
theorem dL_law_577 : decode code 577 = .ok (.iconst 1, 1) := by decide +kernel
theorem dL_law_578 : decode code 578 = .ok (.iadd, 1) := by decide +kernel
theorem dL_law_579 : decode code 579 = .ok (.iaload, 1) := by decide +kernel
theorem dL_law_580 : decode code 580 = .ok (.aload_n 0, 1) := by decide +kernel
theorem dL_law_581 : decode code 581 = .ok (.iload_n 3, 1) := by decide +kernel
theorem dL_law_582 : decode code 582 = .ok (.iconst 2, 1) := by decide +kernel
theorem dL_law_583 : decode code 583 = .ok (.iadd, 1) := by decide +kernel
theorem dL_law_584 : decode code 584 = .ok (.iaload, 1) := by decide +kernel
theorem dL_law_585 : decode code 585 = .ok (.invokevirtual 72, 3) := by decide +kernel
theorem dL_law_588 : decode code 588 = .ok (.if_icmp .eq 437, 3) := by decide +kernel
theorem dL_law_591 : decode code 591 = .ok (.iconst 0, 1) := by decide +kernel
theorem dL_law_592 : decode code 592 = .ok (.ireturn, 1) := by decide +kernel
theorem dL_law_593 : decode code 593 = .ok (.aload_n 1, 1) := by decide +kernel
theorem dL_law_594 : decode code 594 = .ok (.aload_n 0, 1) := by decide +kernel
theorem dL_law_595 : decode code 595 = .ok (.iload_n 3, 1) := by decide +kernel
theorem dL_law_596 : decode code 596 = .ok (.iconst 1, 1) := by decide +kernel
theorem dL_law_597 : decode code 597 = .ok (.iadd, 1) := by decide +kernel
theorem dL_law_598 : decode code 598 = .ok (.iaload, 1) := by decide +kernel
theorem dL_law_599 : decode code 599 = .ok (.aload_n 0, 1) := by decide +kernel
theorem dL_law_600 : decode code 600 = .ok (.iload_n 3, 1) := by decide +kernel
theorem dL_law_601 : decode code 601 = .ok (.iconst 2, 1) := by decide +kernel
theorem dL_law_602 : decode code 602 = .ok (.iadd, 1) := by decide +kernel
theorem dL_law_603 : decode code 603 = .ok (.iaload, 1) := by decide +kernel
theorem dL_law_604 : decode code 604 = .ok (.invokevirtual 73, 3) := by decide +kernel
theorem dL_law_607 : decode code 607 = .ok (.aload_n 2, 1) := by decide +kernel
theorem dL_law_608 : decode code 608 = .ok (.aload_n 0, 1) := by decide +kernel
theorem dL_law_609 : decode code 609 = .ok (.iload_n 3, 1) := by decide +kernel
theorem dL_law_610 : decode code 610 = .ok (.iconst 1, 1) := by decide +kernel
theorem dL_law_611 : decode code 611 = .ok (.iadd, 1) := by decide +kernel
theorem dL_law_612 : decode code 612 = .ok (.iaload, 1) := by decide +kernel
theorem dL_law_613 : decode code 613 = .ok (.aload_n 0, 1) := by decide +kernel
theorem dL_law_614 : decode code 614 = .ok (.iload_n 3, 1) := by decide +kernel
theorem dL_law_615 : decode code 615 = .ok (.iconst 2, 1) := by decide +kernel
theorem dL_law_616 : decode code 616 = .ok (.iadd, 1) := by decide +kernel
theorem dL_law_617 : decode code 617 = .ok (.iaload, 1) := by decide +kernel
theorem dL_law_618 : decode code 618 = .ok (.invokevirtual 76, 3) := by decide +kernel
theorem dL_law_621 : decode code 621 = .ok (.if_icmp .eq 404, 3) := by decide +kernel
theorem dL_law_624 : decode code 624 = .ok (.iconst 0, 1) := by decide +kernel
theorem dL_law_625 : decode code 625 = .ok (.ireturn, 1) := by decide +kernel
theorem dL_law_626 : decode code 626 = .ok (.aload_n 1, 1) := by decide +kernel
theorem dL_law_627 : decode code 627 = .ok (.invokevirtual 77, 3) := by decide +kernel
theorem dL_law_630 : decode code 630 = .ok (.aload_n 2, 1) := by decide +kernel
theorem dL_law_631 : decode code 631 = .ok (.invokevirtual 80, 3) := by decide +kernel
theorem dL_law_634 : decode code 634 = .ok (.if_icmp .eq 391, 3) := by decide +kernel
theorem dL_law_637 : decode code 637 = .ok (.iconst 0, 1) := by decide +kernel
theorem dL_law_638 : decode code 638 = .ok (.ireturn, 1) := by decide +kernel
theorem dL_law_639 : decode code 639 = .ok (.aload_n 1, 1) := by decide +kernel
theorem dL_law_640 : decode code 640 = .ok (.aload_n 0, 1) := by decide +kernel
theorem dL_law_641 : decode code 641 = .ok (.iload_n 3, 1) := by decide +kernel
theorem dL_law_642 : decode code 642 = .ok (.iconst 1, 1) := by decide +kernel
theorem dL_law_643 : decode code 643 = .ok (.iadd, 1) := by decide +kernel
theorem dL_law_644 : decode code 644 = .ok (.iaload, 1) := by decide +kernel
theorem dL_law_645 : decode code 645 = .ok (.aload_n 0, 1) := by decide +kernel
theorem dL_law_646 : decode code 646 = .ok (.iload_n 3, 1) := by decide +kernel
theorem dL_law_647 : decode code 647 = .ok (.iconst 2, 1) := by decide +kernel
theorem dL_law_648 : decode code 648 = .ok (.iadd, 1) := by decide +kernel
theorem dL_law_649 : decode code 649 = .ok (.iaload, 1) := by decide +kernel
theorem dL_law_650 : decode code 650 = .ok (.invokevirtual 81, 3) := by decide +kernel
theorem dL_law_653 : decode code 653 = .ok (.aload_n 2, 1) := by decide +kernel
theorem dL_law_654 : decode code 654 = .ok (.aload_n 0, 1) := by decide +kernel
theorem dL_law_655 : decode code 655 = .ok (.iload_n 3, 1) := by decide +kernel
theorem dL_law_656 : decode code 656 = .ok (.iconst 1, 1) := by decide +kernel
theorem dL_law_657 : decode code 657 = .ok (.iadd, 1) := by decide +kernel
theorem dL_law_658 : decode code 658 = .ok (.iaload, 1) := by decide +kernel
theorem dL_law_659 : decode code 659 = .ok (.aload_n 0, 1) := by decide +kernel
theorem dL_law_660 : decode code 660 = .ok (.iload_n 3, 1) := by decide +kernel
theorem dL_law_661 : decode code 661 = .ok (.iconst 2, 1) := by decide +kernel
theorem dL_law_662 : decode code 662 = .ok (.iadd, 1) := by decide +kernel
theorem dL_law_663 : decode code 663 = .ok (.iaload, 1) := by decide +kernel
theorem dL_law_664 : decode code 664 = .ok (.invokevirtual 84, 3) := by decide +kernel
theorem dL_law_667 : decode code 667 = .ok (.if_icmp .eq 358, 3) := by decide +kernel
theorem dL_law_670 : decode code 670 = .ok (.iconst 0, 1) := by decide +kernel
theorem dL_law_671 : decode code 671 = .ok (.ireturn, 1) := by decide +kernel
theorem dL_law_672 : decode code 672 = .ok (.aload_n 1, 1) := by decide +kernel
theorem dL_law_673 : decode code 673 = .ok (.aload_n 0, 1) := by decide +kernel
theorem dL_law_674 : decode code 674 = .ok (.iload_n 3, 1) := by decide +kernel
theorem dL_law_675 : decode code 675 = .ok (.iconst 1, 1) := by decide +kernel
theorem dL_law_676 : decode code 676 = .ok (.iadd, 1) := by decide +kernel
theorem dL_law_677 : decode code 677 = .ok (.iaload, 1) := by decide +kernel
theorem dL_law_678 : decode code 678 = .ok (.invokevirtual 85, 3) := by decide +kernel
theorem dL_law_681 : decode code 681 = .ok (.aload_n 2, 1) := by decide +kernel
theorem dL_law_682 : decode code 682 = .ok (.aload_n 0, 1) := by decide +kernel
theorem dL_law_683 : decode code 683 = .ok (.iload_n 3, 1) := by decide +kernel
theorem dL_law_684 : decode code 684 = .ok (.iconst 1, 1) := by decide +kernel
theorem dL_law_685 : decode code 685 = .ok (.iadd, 1) := by decide +kernel
theorem dL_law_686 : decode code 686 = .ok (.iaload, 1) := by decide +kernel
theorem dL_law_687 : decode code 687 = .ok (.invokevirtual 88, 3) := by decide +kernel
theorem dL_law_690 : decode code 690 = .ok (.if_icmp .eq 335, 3) := by decide +kernel
theorem dL_law_693 : decode code 693 = .ok (.iconst 0, 1) := by decide +kernel
theorem dL_law_694 : decode code 694 = .ok (.ireturn, 1) := by decide +kernel
theorem dL_law_695 : decode code 695 = .ok (.aload_n 1, 1) := by decide +kernel
theorem dL_law_696 : decode code 696 = .ok (.aload_n 0, 1) := by decide +kernel
theorem dL_law_697 : decode code 697 = .ok (.iload_n 3, 1) := by decide +kernel
theorem dL_law_698 : decode code 698 = .ok (.iconst 1, 1) := by decide +kernel
theorem dL_law_699 : decode code 699 = .ok (.iadd, 1) := by decide +kernel
theorem dL_law_700 : decode code 700 = .ok (.iaload, 1) := by decide +kernel
theorem dL_law_701 : decode code 701 = .ok (.invokevirtual 89, 3) := by decide +kernel
theorem dL_law_704 : decode code 704 = .ok (.aload_n 2, 1) := by decide +kernel
theorem dL_law_705 : decode code 705 = .ok (.aload_n 0, 1) := by decide +kernel
theorem dL_law_706 : decode code 706 = .ok (.iload_n 3, 1) := by decide +kernel
theorem dL_law_707 : decode code 707 = .ok (.iconst 1, 1) := by decide +kernel
theorem dL_law_708 : decode code 708 = .ok (.iadd, 1) := by decide +kernel
theorem dL_law_709 : decode code 709 = .ok (.iaload, 1) := by decide +kernel
theorem dL_law_710 : decode code 710 = .ok (.invokevirtual 92, 3) := by decide +kernel
theorem dL_law_713 : decode code 713 = .ok (.if_icmp .eq 312, 3) := by decide +kernel
theorem dL_law_716 : decode code 716 = .ok (.iconst 0, 1) := by decide +kernel
theorem dL_law_717 : decode code 717 = .ok (.ireturn, 1) := by decide +kernel
theorem dL_law_718 : decode code 718 = .ok (.aload_n 1, 1) := by decide +kernel
theorem dL_law_719 : decode code 719 = .ok (.aload_n 0, 1) := by decide +kernel
theorem dL_law_720 : decode code 720 = .ok (.iload_n 3, 1) := by decide +kernel
theorem dL_law_721 : decode code 721 = .ok (.iconst 1, 1) := by decide +kernel
theorem dL_law_722 : decode code 722 = .ok (.iadd, 1) := by decide +kernel
theorem dL_law_723 : decode code 723 = .ok (.iaload, 1) := by decide +kernel
theorem dL_law_724 : decode code 724 = .ok (.aload_n 0, 1) := by decide +kernel
theorem dL_law_725 : decode code 725 = .ok (.iload_n 3, 1) := by decide +kernel
theorem dL_law_726 : decode code 726 = .ok (.iconst 2, 1) := by decide +kernel
theorem dL_law_727 : decode code 727 = .ok (.iadd, 1) := by decide +kernel
theorem dL_law_728 : decode code 728 = .ok (.iaload, 1) := by decide +kernel
theorem dL_law_729 : decode code 729 = .ok (.aload_n 0, 1) := by decide +kernel
theorem dL_law_730 : decode code 730 = .ok (.iload_n 3, 1) := by decide +kernel
theorem dL_law_731 : decode code 731 = .ok (.iconst 3, 1) := by decide +kernel
theorem dL_law_732 : decode code 732 = .ok (.iadd, 1) := by decide +kernel
theorem dL_law_733 : decode code 733 = .ok (.iaload, 1) := by decide +kernel
theorem dL_law_734 : decode code 734 = .ok (.invokevirtual 93, 3) := by decide +kernel
theorem dL_law_737 : decode code 737 = .ok (.aload_n 2, 1) := by decide +kernel
theorem dL_law_738 : decode code 738 = .ok (.aload_n 0, 1) := by decide +kernel
theorem dL_law_739 : decode code 739 = .ok (.iload_n 3, 1) := by decide +kernel
theorem dL_law_740 : decode code 740 = .ok (.iconst 1, 1) := by decide +kernel
theorem dL_law_741 : decode code 741 = .ok (.iadd, 1) := by decide +kernel
theorem dL_law_742 : decode code 742 = .ok (.iaload, 1) := by decide +kernel
theorem dL_law_743 : decode code 743 = .ok (.aload_n 0, 1) := by decide +kernel
theorem dL_law_744 : decode code 744 = .ok (.iload_n 3, 1) := by decide +kernel
theorem dL_law_745 : decode code 745 = .ok (.iconst 2, 1) := by decide +kernel
theorem dL_law_746 : decode code 746 = .ok (.iadd, 1) := by decide +kernel
theorem dL_law_747 : decode code 747 = .ok (.iaload, 1) := by decide +kernel
theorem dL_law_748 : decode code 748 = .ok (.aload_n 0, 1) := by decide +kernel
theorem dL_law_749 : decode code 749 = .ok (.iload_n 3, 1) := by decide +kernel
theorem dL_law_750 : decode code 750 = .ok (.iconst 3, 1) := by decide +kernel
theorem dL_law_751 : decode code 751 = .ok (.iadd, 1) := by decide +kernel
theorem dL_law_752 : decode code 752 = .ok (.iaload, 1) := by decide +kernel
theorem dL_law_753 : decode code 753 = .ok (.invokevirtual 97, 3) := by decide +kernel
theorem dL_law_756 : decode code 756 = .ok (.lcmp, 1) := by decide +kernel
theorem dL_law_757 : decode code 757 = .ok (.ifCond .eq 268, 3) := by decide +kernel
theorem dL_law_760 : decode code 760 = .ok (.iconst 0, 1) := by decide +kernel
theorem dL_law_761 : decode code 761 = .ok (.ireturn, 1) := by decide +kernel
theorem dL_law_762 : decode code 762 = .ok (.aload_n 1, 1) := by decide +kernel
theorem dL_law_763 : decode code 763 = .ok (.aload_n 0, 1) := by decide +kernel
theorem dL_law_764 : decode code 764 = .ok (.iload_n 3, 1) := by decide +kernel
theorem dL_law_765 : decode code 765 = .ok (.iconst 1, 1) := by decide +kernel
theorem dL_law_766 : decode code 766 = .ok (.iadd, 1) := by decide +kernel
theorem dL_law_767 : decode code 767 = .ok (.iaload, 1) := by decide +kernel
theorem dL_law_768 : decode code 768 = .ok (.invokevirtual 98, 3) := by decide +kernel
theorem dL_law_771 : decode code 771 = .ok (.aload_n 2, 1) := by decide +kernel
theorem dL_law_772 : decode code 772 = .ok (.aload_n 0, 1) := by decide +kernel
theorem dL_law_773 : decode code 773 = .ok (.iload_n 3, 1) := by decide +kernel
theorem dL_law_774 : decode code 774 = .ok (.iconst 1, 1) := by decide +kernel
theorem dL_law_775 : decode code 775 = .ok (.iadd, 1) := by decide +kernel
theorem dL_law_776 : decode code 776 = .ok (.iaload, 1) := by decide +kernel
theorem dL_law_777 : decode code 777 = .ok (.invokevirtual 101, 3) := by decide +kernel
theorem dL_law_780 : decode code 780 = .ok (.if_icmp .eq 245, 3) := by decide +kernel
theorem dL_law_783 : decode code 783 = .ok (.iconst 0, 1) := by decide +kernel
theorem dL_law_784 : decode code 784 = .ok (.ireturn, 1) := by decide +kernel
theorem dL_law_785 : decode code 785 = .ok (.aload_n 1, 1) := by decide +kernel
theorem dL_law_786 : decode code 786 = .ok (.aload_n 0, 1) := by decide +kernel
theorem dL_law_787 : decode code 787 = .ok (.iload_n 3, 1) := by decide +kernel
theorem dL_law_788 : decode code 788 = .ok (.iconst 1, 1) := by decide +kernel
theorem dL_law_789 : decode code 789 = .ok (.iadd, 1) := by decide +kernel
theorem dL_law_790 : decode code 790 = .ok (.iaload, 1) := by decide +kernel
theorem dL_law_791 : decode code 791 = .ok (.aload_n 0, 1) := by decide +kernel
theorem dL_law_792 : decode code 792 = .ok (.iload_n 3, 1) := by decide +kernel
theorem dL_law_793 : decode code 793 = .ok (.iconst 2, 1) := by decide +kernel
theorem dL_law_794 : decode code 794 = .ok (.iadd, 1) := by decide +kernel
theorem dL_law_795 : decode code 795 = .ok (.iaload, 1) := by decide +kernel
theorem dL_law_796 : decode code 796 = .ok (.invokevirtual 102, 3) := by decide +kernel
theorem dL_law_799 : decode code 799 = .ok (.aload_n 2, 1) := by decide +kernel
theorem dL_law_800 : decode code 800 = .ok (.aload_n 0, 1) := by decide +kernel
theorem dL_law_801 : decode code 801 = .ok (.iload_n 3, 1) := by decide +kernel
theorem dL_law_802 : decode code 802 = .ok (.iconst 1, 1) := by decide +kernel
theorem dL_law_803 : decode code 803 = .ok (.iadd, 1) := by decide +kernel
theorem dL_law_804 : decode code 804 = .ok (.iaload, 1) := by decide +kernel
theorem dL_law_805 : decode code 805 = .ok (.aload_n 0, 1) := by decide +kernel
theorem dL_law_806 : decode code 806 = .ok (.iload_n 3, 1) := by decide +kernel
theorem dL_law_807 : decode code 807 = .ok (.iconst 2, 1) := by decide +kernel
theorem dL_law_808 : decode code 808 = .ok (.iadd, 1) := by decide +kernel
theorem dL_law_809 : decode code 809 = .ok (.iaload, 1) := by decide +kernel
theorem dL_law_810 : decode code 810 = .ok (.invokevirtual 105, 3) := by decide +kernel
theorem dL_law_813 : decode code 813 = .ok (.if_icmp .eq 212, 3) := by decide +kernel
theorem dL_law_816 : decode code 816 = .ok (.iconst 0, 1) := by decide +kernel
theorem dL_law_817 : decode code 817 = .ok (.ireturn, 1) := by decide +kernel
theorem dL_law_818 : decode code 818 = .ok (.aload_n 1, 1) := by decide +kernel
theorem dL_law_819 : decode code 819 = .ok (.aload_n 0, 1) := by decide +kernel
theorem dL_law_820 : decode code 820 = .ok (.iload_n 3, 1) := by decide +kernel
theorem dL_law_821 : decode code 821 = .ok (.iconst 1, 1) := by decide +kernel
theorem dL_law_822 : decode code 822 = .ok (.iadd, 1) := by decide +kernel
theorem dL_law_823 : decode code 823 = .ok (.iaload, 1) := by decide +kernel
theorem dL_law_824 : decode code 824 = .ok (.aload_n 0, 1) := by decide +kernel
theorem dL_law_825 : decode code 825 = .ok (.iload_n 3, 1) := by decide +kernel
theorem dL_law_826 : decode code 826 = .ok (.iconst 2, 1) := by decide +kernel
theorem dL_law_827 : decode code 827 = .ok (.iadd, 1) := by decide +kernel
theorem dL_law_828 : decode code 828 = .ok (.iaload, 1) := by decide +kernel
theorem dL_law_829 : decode code 829 = .ok (.aload_n 0, 1) := by decide +kernel
theorem dL_law_830 : decode code 830 = .ok (.iload_n 3, 1) := by decide +kernel
theorem dL_law_831 : decode code 831 = .ok (.iconst 3, 1) := by decide +kernel
theorem dL_law_832 : decode code 832 = .ok (.iadd, 1) := by decide +kernel
theorem dL_law_833 : decode code 833 = .ok (.iaload, 1) := by decide +kernel
theorem dL_law_834 : decode code 834 = .ok (.invokevirtual 106, 3) := by decide +kernel
theorem dL_law_837 : decode code 837 = .ok (.aload_n 2, 1) := by decide +kernel
theorem dL_law_838 : decode code 838 = .ok (.aload_n 0, 1) := by decide +kernel
theorem dL_law_839 : decode code 839 = .ok (.iload_n 3, 1) := by decide +kernel
theorem dL_law_840 : decode code 840 = .ok (.iconst 1, 1) := by decide +kernel
theorem dL_law_841 : decode code 841 = .ok (.iadd, 1) := by decide +kernel
theorem dL_law_842 : decode code 842 = .ok (.iaload, 1) := by decide +kernel
theorem dL_law_843 : decode code 843 = .ok (.aload_n 0, 1) := by decide +kernel
theorem dL_law_844 : decode code 844 = .ok (.iload_n 3, 1) := by decide +kernel
theorem dL_law_845 : decode code 845 = .ok (.iconst 2, 1) := by decide +kernel
theorem dL_law_846 : decode code 846 = .ok (.iadd, 1) := by decide +kernel
theorem dL_law_847 : decode code 847 = .ok (.iaload, 1) := by decide +kernel
theorem dL_law_848 : decode code 848 = .ok (.aload_n 0, 1) := by decide +kernel
theorem dL_law_849 : decode code 849 = .ok (.iload_n 3, 1) := by decide +kernel
theorem dL_law_850 : decode code 850 = .ok (.iconst 3, 1) := by decide +kernel
theorem dL_law_851 : decode code 851 = .ok (.iadd, 1) := by decide +kernel
theorem dL_law_852 : decode code 852 = .ok (.iaload, 1) := by decide +kernel
theorem dL_law_853 : decode code 853 = .ok (.invokevirtual 109, 3) := by decide +kernel
theorem dL_law_856 : decode code 856 = .ok (.if_icmp .eq 169, 3) := by decide +kernel
theorem dL_law_859 : decode code 859 = .ok (.iconst 0, 1) := by decide +kernel
theorem dL_law_860 : decode code 860 = .ok (.ireturn, 1) := by decide +kernel
theorem dL_law_861 : decode code 861 = .ok (.aload_n 1, 1) := by decide +kernel
theorem dL_law_862 : decode code 862 = .ok (.aload_n 0, 1) := by decide +kernel
theorem dL_law_863 : decode code 863 = .ok (.iload_n 3, 1) := by decide +kernel
theorem dL_law_864 : decode code 864 = .ok (.iconst 1, 1) := by decide +kernel
theorem dL_law_865 : decode code 865 = .ok (.iadd, 1) := by decide +kernel
theorem dL_law_866 : decode code 866 = .ok (.iaload, 1) := by decide +kernel
theorem dL_law_867 : decode code 867 = .ok (.invokevirtual 110, 3) := by decide +kernel
theorem dL_law_870 : decode code 870 = .ok (.aload_n 2, 1) := by decide +kernel
theorem dL_law_871 : decode code 871 = .ok (.aload_n 0, 1) := by decide +kernel
theorem dL_law_872 : decode code 872 = .ok (.iload_n 3, 1) := by decide +kernel
theorem dL_law_873 : decode code 873 = .ok (.iconst 1, 1) := by decide +kernel
theorem dL_law_874 : decode code 874 = .ok (.iadd, 1) := by decide +kernel
theorem dL_law_875 : decode code 875 = .ok (.iaload, 1) := by decide +kernel
theorem dL_law_876 : decode code 876 = .ok (.invokevirtual 113, 3) := by decide +kernel
theorem dL_law_879 : decode code 879 = .ok (.if_icmp .eq 146, 3) := by decide +kernel
theorem dL_law_882 : decode code 882 = .ok (.iconst 0, 1) := by decide +kernel
theorem dL_law_883 : decode code 883 = .ok (.ireturn, 1) := by decide +kernel
theorem dL_law_884 : decode code 884 = .ok (.aload_n 1, 1) := by decide +kernel
theorem dL_law_885 : decode code 885 = .ok (.aload_n 0, 1) := by decide +kernel
theorem dL_law_886 : decode code 886 = .ok (.iload_n 3, 1) := by decide +kernel
theorem dL_law_887 : decode code 887 = .ok (.iconst 1, 1) := by decide +kernel
theorem dL_law_888 : decode code 888 = .ok (.iadd, 1) := by decide +kernel
theorem dL_law_889 : decode code 889 = .ok (.iaload, 1) := by decide +kernel
theorem dL_law_890 : decode code 890 = .ok (.aload_n 0, 1) := by decide +kernel
theorem dL_law_891 : decode code 891 = .ok (.iload_n 3, 1) := by decide +kernel
theorem dL_law_892 : decode code 892 = .ok (.iconst 2, 1) := by decide +kernel
theorem dL_law_893 : decode code 893 = .ok (.iadd, 1) := by decide +kernel
theorem dL_law_894 : decode code 894 = .ok (.iaload, 1) := by decide +kernel
theorem dL_law_895 : decode code 895 = .ok (.invokevirtual 114, 3) := by decide +kernel
theorem dL_law_898 : decode code 898 = .ok (.aload_n 2, 1) := by decide +kernel
theorem dL_law_899 : decode code 899 = .ok (.aload_n 0, 1) := by decide +kernel
theorem dL_law_900 : decode code 900 = .ok (.iload_n 3, 1) := by decide +kernel
theorem dL_law_901 : decode code 901 = .ok (.iconst 1, 1) := by decide +kernel
theorem dL_law_902 : decode code 902 = .ok (.iadd, 1) := by decide +kernel
theorem dL_law_903 : decode code 903 = .ok (.iaload, 1) := by decide +kernel
theorem dL_law_904 : decode code 904 = .ok (.aload_n 0, 1) := by decide +kernel
theorem dL_law_905 : decode code 905 = .ok (.iload_n 3, 1) := by decide +kernel
theorem dL_law_906 : decode code 906 = .ok (.iconst 2, 1) := by decide +kernel
theorem dL_law_907 : decode code 907 = .ok (.iadd, 1) := by decide +kernel
theorem dL_law_908 : decode code 908 = .ok (.iaload, 1) := by decide +kernel
theorem dL_law_909 : decode code 909 = .ok (.invokevirtual 117, 3) := by decide +kernel
theorem dL_law_912 : decode code 912 = .ok (.if_icmp .eq 113, 3) := by decide +kernel
theorem dL_law_915 : decode code 915 = .ok (.iconst 0, 1) := by decide +kernel
theorem dL_law_916 : decode code 916 = .ok (.ireturn, 1) := by decide +kernel
theorem dL_law_917 : decode code 917 = .ok (.aload_n 1, 1) := by decide +kernel
theorem dL_law_918 : decode code 918 = .ok (.aload_n 0, 1) := by decide +kernel
theorem dL_law_919 : decode code 919 = .ok (.iload_n 3, 1) := by decide +kernel
theorem dL_law_920 : decode code 920 = .ok (.iconst 1, 1) := by decide +kernel
theorem dL_law_921 : decode code 921 = .ok (.iadd, 1) := by decide +kernel
theorem dL_law_922 : decode code 922 = .ok (.iaload, 1) := by decide +kernel
theorem dL_law_923 : decode code 923 = .ok (.invokevirtual 118, 3) := by decide +kernel
theorem dL_law_926 : decode code 926 = .ok (.aload_n 2, 1) := by decide +kernel
theorem dL_law_927 : decode code 927 = .ok (.aload_n 0, 1) := by decide +kernel
theorem dL_law_928 : decode code 928 = .ok (.iload_n 3, 1) := by decide +kernel
theorem dL_law_929 : decode code 929 = .ok (.iconst 1, 1) := by decide +kernel
theorem dL_law_930 : decode code 930 = .ok (.iadd, 1) := by decide +kernel
theorem dL_law_931 : decode code 931 = .ok (.iaload, 1) := by decide +kernel
theorem dL_law_932 : decode code 932 = .ok (.invokevirtual 121, 3) := by decide +kernel
theorem dL_law_935 : decode code 935 = .ok (.if_icmp .eq 90, 3) := by decide +kernel
theorem dL_law_938 : decode code 938 = .ok (.iconst 0, 1) := by decide +kernel
theorem dL_law_939 : decode code 939 = .ok (.ireturn, 1) := by decide +kernel
theorem dL_law_940 : decode code 940 = .ok (.aload_n 1, 1) := by decide +kernel
theorem dL_law_941 : decode code 941 = .ok (.aload_n 0, 1) := by decide +kernel
theorem dL_law_942 : decode code 942 = .ok (.iload_n 3, 1) := by decide +kernel
theorem dL_law_943 : decode code 943 = .ok (.iconst 1, 1) := by decide +kernel
theorem dL_law_944 : decode code 944 = .ok (.iadd, 1) := by decide +kernel
theorem dL_law_945 : decode code 945 = .ok (.iaload, 1) := by decide +kernel
theorem dL_law_946 : decode code 946 = .ok (.invokevirtual 122, 3) := by decide +kernel
theorem dL_law_949 : decode code 949 = .ok (.aload_n 2, 1) := by decide +kernel
theorem dL_law_950 : decode code 950 = .ok (.aload_n 0, 1) := by decide +kernel
theorem dL_law_951 : decode code 951 = .ok (.iload_n 3, 1) := by decide +kernel
theorem dL_law_952 : decode code 952 = .ok (.iconst 1, 1) := by decide +kernel
theorem dL_law_953 : decode code 953 = .ok (.iadd, 1) := by decide +kernel
theorem dL_law_954 : decode code 954 = .ok (.iaload, 1) := by decide +kernel
theorem dL_law_955 : decode code 955 = .ok (.invokevirtual 125, 3) := by decide +kernel
theorem dL_law_958 : decode code 958 = .ok (.if_icmp .eq 67, 3) := by decide +kernel
theorem dL_law_961 : decode code 961 = .ok (.iconst 0, 1) := by decide +kernel
theorem dL_law_962 : decode code 962 = .ok (.ireturn, 1) := by decide +kernel
theorem dL_law_963 : decode code 963 = .ok (.aload_n 1, 1) := by decide +kernel
theorem dL_law_964 : decode code 964 = .ok (.aload_n 0, 1) := by decide +kernel
theorem dL_law_965 : decode code 965 = .ok (.iload_n 3, 1) := by decide +kernel
theorem dL_law_966 : decode code 966 = .ok (.iconst 1, 1) := by decide +kernel
theorem dL_law_967 : decode code 967 = .ok (.iadd, 1) := by decide +kernel
theorem dL_law_968 : decode code 968 = .ok (.iaload, 1) := by decide +kernel
theorem dL_law_969 : decode code 969 = .ok (.invokevirtual 126, 3) := by decide +kernel
theorem dL_law_972 : decode code 972 = .ok (.aload_n 2, 1) := by decide +kernel
theorem dL_law_973 : decode code 973 = .ok (.aload_n 0, 1) := by decide +kernel
theorem dL_law_974 : decode code 974 = .ok (.iload_n 3, 1) := by decide +kernel
theorem dL_law_975 : decode code 975 = .ok (.iconst 1, 1) := by decide +kernel
theorem dL_law_976 : decode code 976 = .ok (.iadd, 1) := by decide +kernel
theorem dL_law_977 : decode code 977 = .ok (.iaload, 1) := by decide +kernel
theorem dL_law_978 : decode code 978 = .ok (.invokevirtual 129, 3) := by decide +kernel
theorem dL_law_981 : decode code 981 = .ok (.if_icmp .eq 44, 3) := by decide +kernel
theorem dL_law_984 : decode code 984 = .ok (.iconst 0, 1) := by decide +kernel
theorem dL_law_985 : decode code 985 = .ok (.ireturn, 1) := by decide +kernel
theorem dL_law_986 : decode code 986 = .ok (.aload_n 1, 1) := by decide +kernel
theorem dL_law_987 : decode code 987 = .ok (.invokevirtual 130, 3) := by decide +kernel
theorem dL_law_990 : decode code 990 = .ok (.aload_n 2, 1) := by decide +kernel
theorem dL_law_991 : decode code 991 = .ok (.invokevirtual 133, 3) := by decide +kernel
theorem dL_law_994 : decode code 994 = .ok (.if_icmp .eq 31, 3) := by decide +kernel
theorem dL_law_997 : decode code 997 = .ok (.iconst 0, 1) := by decide +kernel
theorem dL_law_998 : decode code 998 = .ok (.ireturn, 1) := by decide +kernel
theorem dL_law_999 : decode code 999 = .ok (.aload_n 1, 1) := by decide +kernel
theorem dL_law_1000 : decode code 1000 = .ok (.invokevirtual 134, 3) := by decide +kernel
theorem dL_law_1003 : decode code 1003 = .ok (.aload_n 2, 1) := by decide +kernel
theorem dL_law_1004 : decode code 1004 = .ok (.invokevirtual 137, 3) := by decide +kernel
theorem dL_law_1007 : decode code 1007 = .ok (.if_icmp .eq 18, 3) := by decide +kernel
theorem dL_law_1010 : decode code 1010 = .ok (.iconst 0, 1) := by decide +kernel
theorem dL_law_1011 : decode code 1011 = .ok (.ireturn, 1) := by decide +kernel
theorem dL_law_1012 : decode code 1012 = .ok (.aload_n 1, 1) := by decide +kernel
theorem dL_law_1013 : decode code 1013 = .ok (.invokevirtual 138, 3) := by decide +kernel
theorem dL_law_1016 : decode code 1016 = .ok (.aload_n 2, 1) := by decide +kernel
theorem dL_law_1017 : decode code 1017 = .ok (.invokevirtual 141, 3) := by decide +kernel
theorem dL_law_1020 : decode code 1020 = .ok (.if_icmp .eq 5, 3) := by decide +kernel
theorem dL_law_1023 : decode code 1023 = .ok (.iconst 0, 1) := by decide +kernel
theorem dL_law_1024 : decode code 1024 = .ok (.ireturn, 1) := by decide +kernel
theorem dL_law_1025 : decode code 1025 = .ok (.iinc 3 4, 3) := by decide +kernel
theorem dL_law_1028 : decode code 1028 = .ok (.goto (-1010), 3) := by decide +kernel
theorem dL_law_1031 : decode code 1031 = .ok (.iconst 1, 1) := by decide +kernel
theorem dL_law_1032 : decode code 1032 = .ok (.ireturn, 1) := by decide +kernel
def BL_18 (L : Nat) (xs : Nat → Int32) (I18 : Int32 → XT → YT → Prop) (I420 : Int32 → Int32 → Int32 → Int32 → XT → YT → Prop) (I447 : Int32 → Int32 → Int32 → Int32 → Int32 → XT → YT → Prop) (a3 : Int32) (X : XT) (Y : YT) : Prop :=
  ((((nI L) - 4) < a3 → True) ∧ (¬ ((nI L) - 4) < a3 → vp_in a3 L ∧ ((((xs a3.toNatClampNeg) &&& 31).toInt < 0 ∨ 29 < ((xs a3.toNatClampNeg) &&& 31).toInt → ∀ w3 : Int32, w3 = a3 + 4 → I18 w3 X Y) ∧ (((xs a3.toNatClampNeg) &&& 31) = 0 → vp_in (a3 + 1) L ∧ vp_in (a3 + 2) L ∧ vp_in (a3 + 3) L ∧ PX9_wide (xs (a3 + 1).toNatClampNeg) (xs (a3 + 2).toNatClampNeg) (xs (a3 + 3).toNatClampNeg) X Y (fun r5 X6 Y7 => PX10_wide (xs (a3 + 1).toNatClampNeg) (xs (a3 + 2).toNatClampNeg) (xs (a3 + 3).toNatClampNeg) X6 Y7 (fun r9 X10 Y11 => ((r5 = r9 → ∀ w14 : Int32, w14 = a3 + 4 → I18 w14 X10 Y11) ∧ (¬ r5 = r9 → False))))) ∧ (((xs a3.toNatClampNeg) &&& 31) = 1 → vp_in (a3 + 1) L ∧ vp_in (a3 + 2) L ∧ vp_in (a3 + 3) L ∧ PX9_feed (xs (a3 + 1).toNatClampNeg) ((((xs (a3 + 2).toNatClampNeg).toInt64) <<< ((32 : Int32).toInt64 &&& 63)) ||| (((xs (a3 + 3).toNatClampNeg).toInt64) &&& (4294967295 : Int64))) X Y (fun r16 X17 Y18 => PX10_feed (xs (a3 + 1).toNatClampNeg) ((((xs (a3 + 2).toNatClampNeg).toInt64) <<< ((32 : Int32).toInt64 &&& 63)) ||| (((xs (a3 + 3).toNatClampNeg).toInt64) &&& (4294967295 : Int64))) X17 Y18 (fun r20 X21 Y22 => ((r16 = r20 → ∀ w25 : Int32, w25 = a3 + 4 → I18 w25 X21 Y22) ∧ (¬ r16 = r20 → False))))) ∧ (((xs a3.toNatClampNeg) &&& 31) = 2 → PX9_name X Y (fun r27 X28 Y29 => PX10_name X28 Y29 (fun r31 X32 Y33 => ((r27 = r31 → ∀ w36 : Int32, w36 = a3 + 4 → I18 w36 X32 Y33) ∧ (¬ r27 = r31 → False))))) ∧ (((xs a3.toNatClampNeg) &&& 31) = 3 → vp_in (a3 + 1) L ∧ vp_in (a3 + 2) L ∧ PX9_offices (xs (a3 + 1).toNatClampNeg) (xs (a3 + 2).toNatClampNeg) X Y (fun r38 X39 Y40 => PX10_offices (xs (a3 + 1).toNatClampNeg) (xs (a3 + 2).toNatClampNeg) X39 Y40 (fun r42 X43 Y44 => ((r38 = r42 → ∀ w47 : Int32, w47 = a3 + 4 → I18 w47 X43 Y44) ∧ (¬ r38 = r42 → False))))) ∧ (((xs a3.toNatClampNeg) &&& 31) = 4 → vp_in (a3 + 1) L ∧ vp_in (a3 + 2) L ∧ vp_in (a3 + 3) L ∧ PX9_there (xs (a3 + 1).toNatClampNeg) (xs (a3 + 2).toNatClampNeg) (xs (a3 + 3).toNatClampNeg) X Y (fun r49 X50 Y51 => PX10_there (xs (a3 + 1).toNatClampNeg) (xs (a3 + 2).toNatClampNeg) (xs (a3 + 3).toNatClampNeg) X50 Y51 (fun r53 X54 Y55 => ((r49 = r53 → ∀ w58 : Int32, w58 = a3 + 4 → I18 w58 X54 Y55) ∧ (¬ r49 = r53 → False))))) ∧ (((xs a3.toNatClampNeg) &&& 31) = 5 → vp_in (a3 + 1) L ∧ vp_in (a3 + 2) L ∧ PX9_weight (xs (a3 + 1).toNatClampNeg) (xs (a3 + 2).toNatClampNeg) X Y (fun r60 X61 Y62 => PX10_weight (xs (a3 + 1).toNatClampNeg) (xs (a3 + 2).toNatClampNeg) X61 Y62 (fun r64 X65 Y66 => ((r60 = r64 → ∀ w69 : Int32, w69 = a3 + 4 → I18 w69 X65 Y66) ∧ (¬ r60 = r64 → False))))) ∧ (((xs a3.toNatClampNeg) &&& 31) = 6 → vp_in (a3 + 1) L ∧ vp_in (a3 + 2) L ∧ vp_in (a3 + 3) L ∧ (((xs (a3 + 3).toNatClampNeg) = 0 → I420 a3 0 (xs (a3 + 2).toNatClampNeg) (xs (a3 + 1).toNatClampNeg) X Y) ∧ (¬ (xs (a3 + 3).toNatClampNeg) = 0 → I420 a3 1 (xs (a3 + 2).toNatClampNeg) (xs (a3 + 1).toNatClampNeg) X Y))) ∧ (((xs a3.toNatClampNeg) &&& 31) = 7 → vp_in (a3 + 1) L ∧ PX9_slack (xs (a3 + 1).toNatClampNeg) X Y (fun r72 X73 Y74 => PX10_slack (xs (a3 + 1).toNatClampNeg) X73 Y74 (fun r76 X77 Y78 => ((r72 = r76 → ∀ w81 : Int32, w81 = a3 + 4 → I18 w81 X77 Y78) ∧ (¬ r72 = r76 → False))))) ∧ (((xs a3.toNatClampNeg) &&& 31) = 8 → vp_in (a3 + 1) L ∧ vp_in (a3 + 2) L ∧ PX9_told (xs (a3 + 1).toNatClampNeg) (xs (a3 + 2).toNatClampNeg) X Y (fun r83 X84 Y85 => PX10_told (xs (a3 + 1).toNatClampNeg) (xs (a3 + 2).toNatClampNeg) X84 Y85 (fun r87 X88 Y89 => ((r83 = r87 → ∀ w92 : Int32, w92 = a3 + 4 → I18 w92 X88 Y89) ∧ (¬ r83 = r87 → False))))) ∧ (((xs a3.toNatClampNeg) &&& 31) = 9 → vp_in (a3 + 1) L ∧ PX9_count (xs (a3 + 1).toNatClampNeg) X Y (fun r94 X95 Y96 => PX10_count (xs (a3 + 1).toNatClampNeg) X95 Y96 (fun r98 X99 Y100 => ((r94 = r98 → ∀ w103 : Int32, w103 = a3 + 4 → I18 w103 X99 Y100) ∧ (¬ r94 = r98 → False))))) ∧ (((xs a3.toNatClampNeg) &&& 31) = 10 → PX9_page X Y (fun r105 X106 Y107 => PX10_page X106 Y107 (fun r109 X110 Y111 => ((r105 = r109 → ∀ w114 : Int32, w114 = a3 + 4 → I18 w114 X110 Y111) ∧ (¬ r105 = r109 → False))))) ∧ (((xs a3.toNatClampNeg) &&& 31) = 11 → PX9_fault X Y (fun r116 X117 Y118 => PX10_fault X117 Y118 (fun r120 X121 Y122 => ((r116 = r120 → ∀ w125 : Int32, w125 = a3 + 4 → I18 w125 X121 Y122) ∧ (¬ r116 = r120 → False))))) ∧ (((xs a3.toNatClampNeg) &&& 31) = 12 → vp_in (a3 + 1) L ∧ vp_in (a3 + 2) L ∧ PX9_place (xs (a3 + 1).toNatClampNeg) (xs (a3 + 2).toNatClampNeg) X Y (fun r127 X128 Y129 => PX10_place (xs (a3 + 1).toNatClampNeg) (xs (a3 + 2).toNatClampNeg) X128 Y129 (fun r131 X132 Y133 => ((r127 = r131 → ∀ w136 : Int32, w136 = a3 + 4 → I18 w136 X132 Y133) ∧ (¬ r127 = r131 → False))))) ∧ (((xs a3.toNatClampNeg) &&& 31) = 13 → vp_in (a3 + 1) L ∧ vp_in (a3 + 2) L ∧ PX9_twins (xs (a3 + 1).toNatClampNeg) (xs (a3 + 2).toNatClampNeg) X Y (fun r138 X139 Y140 => PX10_twins (xs (a3 + 1).toNatClampNeg) (xs (a3 + 2).toNatClampNeg) X139 Y140 (fun r142 X143 Y144 => ((r138 = r142 → ∀ w147 : Int32, w147 = a3 + 4 → I18 w147 X143 Y144) ∧ (¬ r138 = r142 → False))))) ∧ (((xs a3.toNatClampNeg) &&& 31) = 14 → PX9_readings X Y (fun r149 X150 Y151 => PX10_readings X150 Y151 (fun r153 X154 Y155 => ((r149 = r153 → ∀ w158 : Int32, w158 = a3 + 4 → I18 w158 X154 Y155) ∧ (¬ r149 = r153 → False))))) ∧ (((xs a3.toNatClampNeg) &&& 31) = 15 → vp_in (a3 + 1) L ∧ vp_in (a3 + 2) L ∧ PX9_reading (xs (a3 + 1).toNatClampNeg) (xs (a3 + 2).toNatClampNeg) X Y (fun r160 X161 Y162 => PX10_reading (xs (a3 + 1).toNatClampNeg) (xs (a3 + 2).toNatClampNeg) X161 Y162 (fun r164 X165 Y166 => ((r160 = r164 → ∀ w169 : Int32, w169 = a3 + 4 → I18 w169 X165 Y166) ∧ (¬ r160 = r164 → False))))) ∧ (((xs a3.toNatClampNeg) &&& 31) = 16 → vp_in (a3 + 1) L ∧ PX9_may (xs (a3 + 1).toNatClampNeg) X Y (fun r171 X172 Y173 => PX10_may (xs (a3 + 1).toNatClampNeg) X172 Y173 (fun r175 X176 Y177 => ((r171 = r175 → ∀ w180 : Int32, w180 = a3 + 4 → I18 w180 X176 Y177) ∧ (¬ r171 = r175 → False))))) ∧ (((xs a3.toNatClampNeg) &&& 31) = 17 → vp_in (a3 + 1) L ∧ PX9_fits (xs (a3 + 1).toNatClampNeg) X Y (fun r182 X183 Y184 => PX10_fits (xs (a3 + 1).toNatClampNeg) X183 Y184 (fun r186 X187 Y188 => ((r182 = r186 → ∀ w191 : Int32, w191 = a3 + 4 → I18 w191 X187 Y188) ∧ (¬ r182 = r186 → False))))) ∧ (((xs a3.toNatClampNeg) &&& 31) = 18 → vp_in (a3 + 1) L ∧ vp_in (a3 + 2) L ∧ vp_in (a3 + 3) L ∧ PX9_odds (xs (a3 + 1).toNatClampNeg) (xs (a3 + 2).toNatClampNeg) (xs (a3 + 3).toNatClampNeg) X Y (fun r193 X194 Y195 => PX10_odds (xs (a3 + 1).toNatClampNeg) (xs (a3 + 2).toNatClampNeg) (xs (a3 + 3).toNatClampNeg) X194 Y195 (fun r197 X198 Y199 => (((lg_cmp r193 r197) = 0 → ∀ w202 : Int32, w202 = a3 + 4 → I18 w202 X198 Y199) ∧ (¬ (lg_cmp r193 r197) = 0 → False))))) ∧ (((xs a3.toNatClampNeg) &&& 31) = 19 → vp_in (a3 + 1) L ∧ PX9_on (xs (a3 + 1).toNatClampNeg) X Y (fun r204 X205 Y206 => PX10_on (xs (a3 + 1).toNatClampNeg) X205 Y206 (fun r208 X209 Y210 => ((r204 = r208 → ∀ w213 : Int32, w213 = a3 + 4 → I18 w213 X209 Y210) ∧ (¬ r204 = r208 → False))))) ∧ (((xs a3.toNatClampNeg) &&& 31) = 20 → vp_in (a3 + 1) L ∧ vp_in (a3 + 2) L ∧ PX9_away (xs (a3 + 1).toNatClampNeg) (xs (a3 + 2).toNatClampNeg) X Y (fun r215 X216 Y217 => PX10_away (xs (a3 + 1).toNatClampNeg) (xs (a3 + 2).toNatClampNeg) X216 Y217 (fun r219 X220 Y221 => ((r215 = r219 → ∀ w224 : Int32, w224 = a3 + 4 → I18 w224 X220 Y221) ∧ (¬ r215 = r219 → False))))) ∧ (((xs a3.toNatClampNeg) &&& 31) = 21 → vp_in (a3 + 1) L ∧ vp_in (a3 + 2) L ∧ vp_in (a3 + 3) L ∧ PX9_knows (xs (a3 + 1).toNatClampNeg) (xs (a3 + 2).toNatClampNeg) (xs (a3 + 3).toNatClampNeg) X Y (fun r226 X227 Y228 => PX10_knows (xs (a3 + 1).toNatClampNeg) (xs (a3 + 2).toNatClampNeg) (xs (a3 + 3).toNatClampNeg) X227 Y228 (fun r230 X231 Y232 => ((r226 = r230 → ∀ w235 : Int32, w235 = a3 + 4 → I18 w235 X231 Y232) ∧ (¬ r226 = r230 → False))))) ∧ (((xs a3.toNatClampNeg) &&& 31) = 22 → vp_in (a3 + 1) L ∧ PX9_together (xs (a3 + 1).toNatClampNeg) X Y (fun r237 X238 Y239 => PX10_together (xs (a3 + 1).toNatClampNeg) X238 Y239 (fun r241 X242 Y243 => ((r237 = r241 → ∀ w246 : Int32, w246 = a3 + 4 → I18 w246 X242 Y243) ∧ (¬ r237 = r241 → False))))) ∧ (((xs a3.toNatClampNeg) &&& 31) = 23 → vp_in (a3 + 1) L ∧ vp_in (a3 + 2) L ∧ PX9_sees (xs (a3 + 1).toNatClampNeg) (xs (a3 + 2).toNatClampNeg) X Y (fun r248 X249 Y250 => PX10_sees (xs (a3 + 1).toNatClampNeg) (xs (a3 + 2).toNatClampNeg) X249 Y250 (fun r252 X253 Y254 => ((r248 = r252 → ∀ w257 : Int32, w257 = a3 + 4 → I18 w257 X253 Y254) ∧ (¬ r248 = r252 → False))))) ∧ (((xs a3.toNatClampNeg) &&& 31) = 24 → vp_in (a3 + 1) L ∧ PX9_keep (xs (a3 + 1).toNatClampNeg) X Y (fun r259 X260 Y261 => PX10_keep (xs (a3 + 1).toNatClampNeg) X260 Y261 (fun r263 X264 Y265 => ((r259 = r263 → ∀ w268 : Int32, w268 = a3 + 4 → I18 w268 X264 Y265) ∧ (¬ r259 = r263 → False))))) ∧ (((xs a3.toNatClampNeg) &&& 31) = 25 → vp_in (a3 + 1) L ∧ PX9_betrayed (xs (a3 + 1).toNatClampNeg) X Y (fun r270 X271 Y272 => PX10_betrayed (xs (a3 + 1).toNatClampNeg) X271 Y272 (fun r274 X275 Y276 => ((r270 = r274 → ∀ w279 : Int32, w279 = a3 + 4 → I18 w279 X275 Y276) ∧ (¬ r270 = r274 → False))))) ∧ (((xs a3.toNatClampNeg) &&& 31) = 26 → vp_in (a3 + 1) L ∧ PX9_opened (xs (a3 + 1).toNatClampNeg) X Y (fun r281 X282 Y283 => PX10_opened (xs (a3 + 1).toNatClampNeg) X282 Y283 (fun r285 X286 Y287 => ((r281 = r285 → ∀ w290 : Int32, w290 = a3 + 4 → I18 w290 X286 Y287) ∧ (¬ r281 = r285 → False))))) ∧ (((xs a3.toNatClampNeg) &&& 31) = 27 → PX9_most X Y (fun r292 X293 Y294 => PX10_most X293 Y294 (fun r296 X297 Y298 => ((r292 = r296 → ∀ w301 : Int32, w301 = a3 + 4 → I18 w301 X297 Y298) ∧ (¬ r292 = r296 → False))))) ∧ (((xs a3.toNatClampNeg) &&& 31) = 28 → PX9_fewest X Y (fun r303 X304 Y305 => PX10_fewest X304 Y305 (fun r307 X308 Y309 => ((r303 = r307 → ∀ w312 : Int32, w312 = a3 + 4 → I18 w312 X308 Y309) ∧ (¬ r303 = r307 → False))))) ∧ (((xs a3.toNatClampNeg) &&& 31) = 29 → PX9_wider X Y (fun r314 X315 Y316 => PX10_wider X315 Y316 (fun r318 X319 Y320 => ((r314 = r318 → ∀ w323 : Int32, w323 = a3 + 4 → I18 w323 X319 Y320) ∧ (¬ r314 = r318 → False))))))))
def BL_420 (L : Nat) (xs : Nat → Int32) (I18 : Int32 → XT → YT → Prop) (I420 : Int32 → Int32 → Int32 → Int32 → XT → YT → Prop) (I447 : Int32 → Int32 → Int32 → Int32 → Int32 → XT → YT → Prop) (a3 : Int32) (t0 : Int32) (t1 : Int32) (t2 : Int32) (X : XT) (Y : YT) : Prop :=
  PX9_never t2 t1 t0 X Y (fun r1 X2 Y3 => vp_in (a3 + 1) L ∧ vp_in (a3 + 2) L ∧ vp_in (a3 + 3) L ∧ (((xs (a3 + 3).toNatClampNeg) = 0 → I447 a3 0 (xs (a3 + 2).toNatClampNeg) (xs (a3 + 1).toNatClampNeg) r1 X2 Y3) ∧ (¬ (xs (a3 + 3).toNatClampNeg) = 0 → I447 a3 1 (xs (a3 + 2).toNatClampNeg) (xs (a3 + 1).toNatClampNeg) r1 X2 Y3)))
def BL_447 (L : Nat) (xs : Nat → Int32) (I18 : Int32 → XT → YT → Prop) (I420 : Int32 → Int32 → Int32 → Int32 → XT → YT → Prop) (I447 : Int32 → Int32 → Int32 → Int32 → Int32 → XT → YT → Prop) (a3 : Int32) (t0 : Int32) (t1 : Int32) (t2 : Int32) (t4 : Int32) (X : XT) (Y : YT) : Prop :=
  PX10_never t2 t1 t0 X Y (fun r1 X2 Y3 => ((t4 = r1 → ∀ w6 : Int32, w6 = a3 + 4 → I18 w6 X2 Y3) ∧ (¬ t4 = r1 → False)))
/-- what the whole claim comes to: no machine is left in it -/
def PL (L : Nat) (xs : Nat → Int32) (X : XT) (Y : YT) : Prop := ∀ (I18 : Int32 → XT → YT → Prop) (I420 : Int32 → Int32 → Int32 → Int32 → XT → YT → Prop) (I447 : Int32 → Int32 → Int32 → Int32 → Int32 → XT → YT → Prop), (∀ (a3 : Int32) (X : XT) (Y : YT), BL_18 L xs I18 I420 I447 a3 X Y → I18 a3 X Y) → (∀ (a3 : Int32) (t0 : Int32) (t1 : Int32) (t2 : Int32) (X : XT) (Y : YT), BL_420 L xs I18 I420 I447 a3 t0 t1 t2 X Y → I420 a3 t0 t1 t2 X Y) → (∀ (a3 : Int32) (t0 : Int32) (t1 : Int32) (t2 : Int32) (t4 : Int32) (X : XT) (Y : YT), BL_447 L xs I18 I420 I447 a3 t0 t1 t2 t4 X Y → I447 a3 t0 t1 t2 t4 X Y) → I18 0 X Y
set_option maxHeartbeats 40000000 in
set_option maxRecDepth 100000 in
theorem kL_18 {Γ : Cxt} {L : Nat} {xs : Nat → Int32} (O : Ok Γ R_law code 4 room_1) (r : LawR Γ L xs) {I18 : Int32 → XT → YT → Prop} {I420 : Int32 → Int32 → Int32 → Int32 → XT → YT → Prop} {I447 : Int32 → Int32 → Int32 → Int32 → Int32 → XT → YT → Prop} (e18 : ∀ (a3 : Int32) (X : XT) (Y : YT), I18 a3 X Y → V Γ 18 [(0, .ref 87), (1, .ref 0), (2, .ref 48), (3, .int a3)] [] X Y) (e420 : ∀ (a3 : Int32) (t0 : Int32) (t1 : Int32) (t2 : Int32) (X : XT) (Y : YT), I420 a3 t0 t1 t2 X Y → V Γ 420 [(0, .ref 87), (1, .ref 0), (2, .ref 48), (3, .int a3)] [.int t0, .int t1, .int t2, .ref 0] X Y) (e447 : ∀ (a3 : Int32) (t0 : Int32) (t1 : Int32) (t2 : Int32) (t4 : Int32) (X : XT) (Y : YT), I447 a3 t0 t1 t2 t4 X Y → V Γ 447 [(0, .ref 87), (1, .ref 0), (2, .ref 48), (3, .int a3)] [.int t0, .int t1, .int t2, .ref 48, .int t4] X Y) {a3 : Int32} {X : XT} {Y : YT} (h : BL_18 L xs I18 I420 I447 a3 X Y) : V Γ 18 [(0, .ref 87), (1, .ref 0), (2, .ref 48), (3, .int a3)] [] X Y := by
  refine v_iload_n O dL_law_18 rfl 3 rfl ?_
  refine v_aload_n O dL_law_19 rfl 0 rfl ?_
  refine v_slen O r dL_law_20 ?_
  refine v_iconst O dL_law_21 kc_4 ?_
  refine v_isub O dL_law_22 ?_
  refine v_icmp_gt (tgt := 1031) O dL_law_23 (by decide) (fun g1 => ?_) (fun g1 => ?_)
  · refine v_iconst O dL_law_1031 kc_1 ?_
    exact v_lawret O r dL_law_1032
  · refine v_aload_n O dL_law_26 rfl 0 rfl ?_
    refine v_iload_n O dL_law_27 rfl 3 rfl ?_
    refine v_sld O r dL_law_28 (h.2 g1).1 ?_
    refine v_bipush O dL_law_29 kb_31 ?_
    refine v_iand O dL_law_31 ?_
    refine v_tsw (tg := [168, 211, 274, 287, 320, 363, 396, 455, 478, 511, 534, 547, 560, 593, 626, 639, 672, 695, 718, 762, 785, 818, 861, 884, 917, 940, 963, 986, 999, 1012]) (dt := 1025) O dL_law_32 (by decide) (by decide) (by decide) (by decide) (fun g2 => ?_) (fun j t hj g2 => ?_)
    · obtain ⟨w3, hw4⟩ : ∃ y : Int32, y = a3 + 4 := ⟨_, rfl⟩
      refine v_iinc (v := w3) (j := 3) O dL_law_1025 rfl (by rw [hw4]; exact congrArg _ kc_4) (by decide) (lv' := [(3, .int w3), (0, .ref 87), (1, .ref 0), (2, .ref 48)]) rfl ?_
      refine v_goto O dL_law_1028 (tgt := 18) (by decide) ?_
      exact v_loc [1, 2, 3, 0] rfl (e18 w3 X Y (((h.2 g1).2.1 g2) w3 hw4))
    · match j, hj with
      | 0, hj =>
        cases hj
        refine v_aload_n O dL_law_168 rfl 1 rfl ?_
        refine v_aload_n O dL_law_169 rfl 0 rfl ?_
        refine v_iload_n O dL_law_170 rfl 3 rfl ?_
        refine v_iconst O dL_law_171 kc_1 ?_
        refine v_iadd O dL_law_172 ?_
        refine v_sld O r dL_law_173 ((h.2 g1).2.2.1 g2).1 ?_
        refine v_aload_n O dL_law_174 rfl 0 rfl ?_
        refine v_iload_n O dL_law_175 rfl 3 rfl ?_
        refine v_iconst O dL_law_176 kc_2 ?_
        refine v_iadd O dL_law_177 ?_
        refine v_sld O r dL_law_178 ((h.2 g1).2.2.1 g2).2.1 ?_
        refine v_aload_n O dL_law_179 rfl 0 rfl ?_
        refine v_iload_n O dL_law_180 rfl 3 rfl ?_
        refine v_iconst O dL_law_181 kc_3 ?_
        refine v_iadd O dL_law_182 ?_
        refine v_sld O r dL_law_183 ((h.2 g1).2.2.1 g2).2.2.1 ?_
        refine v_callV (rm' := { frames := 2, cells := 0, slots := 0, locals := 49 }) (As := [.int (xs (a3 + 1).toNatClampNeg), .int (xs (a3 + 2).toNatClampNeg), .int (xs (a3 + 3).toNatClampNeg)]) (st := []) O dL_law_184 ci_X9_wide ml__law_13 mi_X9_wide sh_0 rfl ⟨rfl, rfl, (by decide), (by decide)⟩ rfl (Nat.le_of_ble_eq_true rfl) rfl (mX9_wide ((h.2 g1).2.2.1 g2).2.2.2) (k_I (fun r5 X6 Y7 h8 => ?_))
        refine v_aload_n O dL_law_187 rfl 2 rfl ?_
        refine v_aload_n O dL_law_188 rfl 0 rfl ?_
        refine v_iload_n O dL_law_189 rfl 3 rfl ?_
        refine v_iconst O dL_law_190 kc_1 ?_
        refine v_iadd O dL_law_191 ?_
        refine v_sld O r dL_law_192 ((h.2 g1).2.2.1 g2).1 ?_
        refine v_aload_n O dL_law_193 rfl 0 rfl ?_
        refine v_iload_n O dL_law_194 rfl 3 rfl ?_
        refine v_iconst O dL_law_195 kc_2 ?_
        refine v_iadd O dL_law_196 ?_
        refine v_sld O r dL_law_197 ((h.2 g1).2.2.1 g2).2.1 ?_
        refine v_aload_n O dL_law_198 rfl 0 rfl ?_
        refine v_iload_n O dL_law_199 rfl 3 rfl ?_
        refine v_iconst O dL_law_200 kc_3 ?_
        refine v_iadd O dL_law_201 ?_
        refine v_sld O r dL_law_202 ((h.2 g1).2.2.1 g2).2.2.1 ?_
        refine v_callV (rm' := { frames := 1, cells := 0, slots := 0, locals := 25 }) (As := [.int (xs (a3 + 1).toNatClampNeg), .int (xs (a3 + 2).toNatClampNeg), .int (xs (a3 + 3).toNatClampNeg)]) (st := [.int r5]) O dL_law_203 ci_X10_wide ml__law_17 mi_X10_wide sh_48 rfl ⟨rfl, rfl, (by decide), (by decide)⟩ rfl (Nat.le_of_ble_eq_true rfl) rfl (mX10_wide h8) (k_I (fun r9 X10 Y11 h12 => ?_))
        refine v_icmp_eq (tgt := 1025) O dL_law_206 (by decide) (fun g13 => ?_) (fun g13 => ?_)
        · obtain ⟨w14, hw15⟩ : ∃ y : Int32, y = a3 + 4 := ⟨_, rfl⟩
          refine v_iinc (v := w14) (j := 3) O dL_law_1025 rfl (by rw [hw15]; exact congrArg _ kc_4) (by decide) (lv' := [(3, .int w14), (0, .ref 87), (1, .ref 0), (2, .ref 48)]) rfl ?_
          refine v_goto O dL_law_1028 (tgt := 18) (by decide) ?_
          exact v_loc [1, 2, 3, 0] rfl (e18 w14 X10 Y11 ((h12.1 g13) w14 hw15))
        · refine v_iconst O dL_law_209 kc_0 ?_
          exact False.elim (h12.2 g13)
      | 1, hj =>
        cases hj
        refine v_aload_n O dL_law_211 rfl 1 rfl ?_
        refine v_aload_n O dL_law_212 rfl 0 rfl ?_
        refine v_iload_n O dL_law_213 rfl 3 rfl ?_
        refine v_iconst O dL_law_214 kc_1 ?_
        refine v_iadd O dL_law_215 ?_
        refine v_sld O r dL_law_216 ((h.2 g1).2.2.2.1 g2).1 ?_
        refine v_aload_n O dL_law_217 rfl 0 rfl ?_
        refine v_iload_n O dL_law_218 rfl 3 rfl ?_
        refine v_iconst O dL_law_219 kc_2 ?_
        refine v_iadd O dL_law_220 ?_
        refine v_sld O r dL_law_221 ((h.2 g1).2.2.2.1 g2).2.1 ?_
        refine v_i2l O dL_law_222 ?_
        refine v_bipush O dL_law_223 kb_32 ?_
        refine v_lshl O dL_law_225 ?_
        refine v_aload_n O dL_law_226 rfl 0 rfl ?_
        refine v_iload_n O dL_law_227 rfl 3 rfl ?_
        refine v_iconst O dL_law_228 kc_3 ?_
        refine v_iadd O dL_law_229 ?_
        refine v_sld O r dL_law_230 ((h.2 g1).2.2.2.1 g2).2.2.1 ?_
        refine v_i2l O dL_law_231 ?_
        refine v_ldc2 O dL_law_232 kl__law_18 ?_
        refine v_land O dL_law_235 ?_
        refine v_lor O dL_law_236 ?_
        refine v_callV (rm' := { frames := 1, cells := 0, slots := 0, locals := 22 }) (As := [.int (xs (a3 + 1).toNatClampNeg), .long ((((xs (a3 + 2).toNatClampNeg).toInt64) <<< ((32 : Int32).toInt64 &&& 63)) ||| (((xs (a3 + 3).toNatClampNeg).toInt64) &&& (4294967295 : Int64)))]) (st := []) O dL_law_237 ci_X9_feed ml__law_20 mi_X9_feed sh_0 rfl ⟨rfl, rfl, (by decide), (by decide)⟩ rfl (Nat.le_of_ble_eq_true rfl) rfl (mX9_feed ((h.2 g1).2.2.2.1 g2).2.2.2) (k_I (fun r16 X17 Y18 h19 => ?_))
        refine v_aload_n O dL_law_240 rfl 2 rfl ?_
        refine v_aload_n O dL_law_241 rfl 0 rfl ?_
        refine v_iload_n O dL_law_242 rfl 3 rfl ?_
        refine v_iconst O dL_law_243 kc_1 ?_
        refine v_iadd O dL_law_244 ?_
        refine v_sld O r dL_law_245 ((h.2 g1).2.2.2.1 g2).1 ?_
        refine v_aload_n O dL_law_246 rfl 0 rfl ?_
        refine v_iload_n O dL_law_247 rfl 3 rfl ?_
        refine v_iconst O dL_law_248 kc_2 ?_
        refine v_iadd O dL_law_249 ?_
        refine v_sld O r dL_law_250 ((h.2 g1).2.2.2.1 g2).2.1 ?_
        refine v_i2l O dL_law_251 ?_
        refine v_bipush O dL_law_252 kb_32 ?_
        refine v_lshl O dL_law_254 ?_
        refine v_aload_n O dL_law_255 rfl 0 rfl ?_
        refine v_iload_n O dL_law_256 rfl 3 rfl ?_
        refine v_iconst O dL_law_257 kc_3 ?_
        refine v_iadd O dL_law_258 ?_
        refine v_sld O r dL_law_259 ((h.2 g1).2.2.2.1 g2).2.2.1 ?_
        refine v_i2l O dL_law_260 ?_
        refine v_ldc2 O dL_law_261 kl__law_18 ?_
        refine v_land O dL_law_264 ?_
        refine v_lor O dL_law_265 ?_
        refine v_callV (rm' := { frames := 1, cells := 0, slots := 0, locals := 25 }) (As := [.int (xs (a3 + 1).toNatClampNeg), .long ((((xs (a3 + 2).toNatClampNeg).toInt64) <<< ((32 : Int32).toInt64 &&& 63)) ||| (((xs (a3 + 3).toNatClampNeg).toInt64) &&& (4294967295 : Int64)))]) (st := [.int r16]) O dL_law_266 ci_X10_feed ml__law_24 mi_X10_feed sh_48 rfl ⟨rfl, rfl, (by decide), (by decide)⟩ rfl (Nat.le_of_ble_eq_true rfl) rfl (mX10_feed h19) (k_I (fun r20 X21 Y22 h23 => ?_))
        refine v_icmp_eq (tgt := 1025) O dL_law_269 (by decide) (fun g24 => ?_) (fun g24 => ?_)
        · obtain ⟨w25, hw26⟩ : ∃ y : Int32, y = a3 + 4 := ⟨_, rfl⟩
          refine v_iinc (v := w25) (j := 3) O dL_law_1025 rfl (by rw [hw26]; exact congrArg _ kc_4) (by decide) (lv' := [(3, .int w25), (0, .ref 87), (1, .ref 0), (2, .ref 48)]) rfl ?_
          refine v_goto O dL_law_1028 (tgt := 18) (by decide) ?_
          exact v_loc [1, 2, 3, 0] rfl (e18 w25 X21 Y22 ((h23.1 g24) w25 hw26))
        · refine v_iconst O dL_law_272 kc_0 ?_
          exact False.elim (h23.2 g24)
      | 2, hj =>
        cases hj
        refine v_aload_n O dL_law_274 rfl 1 rfl ?_
        refine v_callV (rm' := { frames := 6, cells := 0, slots := 0, locals := 128 }) (As := []) (st := []) O dL_law_275 ci_X9_name ml__law_25 mi_X9_name sh_0 rfl ⟨rfl, rfl, (by decide), (by decide)⟩ rfl (Nat.le_of_ble_eq_true rfl) rfl (mX9_name ((h.2 g1).2.2.2.2.1 g2)) (k_I (fun r27 X28 Y29 h30 => ?_))
        refine v_aload_n O dL_law_278 rfl 2 rfl ?_
        refine v_callV (rm' := { frames := 1, cells := 0, slots := 0, locals := 25 }) (As := []) (st := [.int r27]) O dL_law_279 ci_X10_name ml__law_29 mi_X10_name sh_48 rfl ⟨rfl, rfl, (by decide), (by decide)⟩ rfl (Nat.le_of_ble_eq_true rfl) rfl (mX10_name h30) (k_I (fun r31 X32 Y33 h34 => ?_))
        refine v_icmp_eq (tgt := 1025) O dL_law_282 (by decide) (fun g35 => ?_) (fun g35 => ?_)
        · obtain ⟨w36, hw37⟩ : ∃ y : Int32, y = a3 + 4 := ⟨_, rfl⟩
          refine v_iinc (v := w36) (j := 3) O dL_law_1025 rfl (by rw [hw37]; exact congrArg _ kc_4) (by decide) (lv' := [(3, .int w36), (0, .ref 87), (1, .ref 0), (2, .ref 48)]) rfl ?_
          refine v_goto O dL_law_1028 (tgt := 18) (by decide) ?_
          exact v_loc [1, 2, 3, 0] rfl (e18 w36 X32 Y33 ((h34.1 g35) w36 hw37))
        · refine v_iconst O dL_law_285 kc_0 ?_
          exact False.elim (h34.2 g35)
      | 3, hj =>
        cases hj
        refine v_aload_n O dL_law_287 rfl 1 rfl ?_
        refine v_aload_n O dL_law_288 rfl 0 rfl ?_
        refine v_iload_n O dL_law_289 rfl 3 rfl ?_
        refine v_iconst O dL_law_290 kc_1 ?_
        refine v_iadd O dL_law_291 ?_
        refine v_sld O r dL_law_292 ((h.2 g1).2.2.2.2.2.1 g2).1 ?_
        refine v_aload_n O dL_law_293 rfl 0 rfl ?_
        refine v_iload_n O dL_law_294 rfl 3 rfl ?_
        refine v_iconst O dL_law_295 kc_2 ?_
        refine v_iadd O dL_law_296 ?_
        refine v_sld O r dL_law_297 ((h.2 g1).2.2.2.2.2.1 g2).2.1 ?_
        refine v_callV (rm' := { frames := 2, cells := 0, slots := 0, locals := 43 }) (As := [.int (xs (a3 + 1).toNatClampNeg), .int (xs (a3 + 2).toNatClampNeg)]) (st := []) O dL_law_298 ci_X9_offices ml__law_30 mi_X9_offices sh_0 rfl ⟨rfl, rfl, (by decide), (by decide)⟩ rfl (Nat.le_of_ble_eq_true rfl) rfl (mX9_offices ((h.2 g1).2.2.2.2.2.1 g2).2.2) (k_I (fun r38 X39 Y40 h41 => ?_))
        refine v_aload_n O dL_law_301 rfl 2 rfl ?_
        refine v_aload_n O dL_law_302 rfl 0 rfl ?_
        refine v_iload_n O dL_law_303 rfl 3 rfl ?_
        refine v_iconst O dL_law_304 kc_1 ?_
        refine v_iadd O dL_law_305 ?_
        refine v_sld O r dL_law_306 ((h.2 g1).2.2.2.2.2.1 g2).1 ?_
        refine v_aload_n O dL_law_307 rfl 0 rfl ?_
        refine v_iload_n O dL_law_308 rfl 3 rfl ?_
        refine v_iconst O dL_law_309 kc_2 ?_
        refine v_iadd O dL_law_310 ?_
        refine v_sld O r dL_law_311 ((h.2 g1).2.2.2.2.2.1 g2).2.1 ?_
        refine v_callV (rm' := { frames := 2, cells := 0, slots := 0, locals := 46 }) (As := [.int (xs (a3 + 1).toNatClampNeg), .int (xs (a3 + 2).toNatClampNeg)]) (st := [.int r38]) O dL_law_312 ci_X10_offices ml__law_34 mi_X10_offices sh_48 rfl ⟨rfl, rfl, (by decide), (by decide)⟩ rfl (Nat.le_of_ble_eq_true rfl) rfl (mX10_offices h41) (k_I (fun r42 X43 Y44 h45 => ?_))
        refine v_icmp_eq (tgt := 1025) O dL_law_315 (by decide) (fun g46 => ?_) (fun g46 => ?_)
        · obtain ⟨w47, hw48⟩ : ∃ y : Int32, y = a3 + 4 := ⟨_, rfl⟩
          refine v_iinc (v := w47) (j := 3) O dL_law_1025 rfl (by rw [hw48]; exact congrArg _ kc_4) (by decide) (lv' := [(3, .int w47), (0, .ref 87), (1, .ref 0), (2, .ref 48)]) rfl ?_
          refine v_goto O dL_law_1028 (tgt := 18) (by decide) ?_
          exact v_loc [1, 2, 3, 0] rfl (e18 w47 X43 Y44 ((h45.1 g46) w47 hw48))
        · refine v_iconst O dL_law_318 kc_0 ?_
          exact False.elim (h45.2 g46)
      | 4, hj =>
        cases hj
        refine v_aload_n O dL_law_320 rfl 1 rfl ?_
        refine v_aload_n O dL_law_321 rfl 0 rfl ?_
        refine v_iload_n O dL_law_322 rfl 3 rfl ?_
        refine v_iconst O dL_law_323 kc_1 ?_
        refine v_iadd O dL_law_324 ?_
        refine v_sld O r dL_law_325 ((h.2 g1).2.2.2.2.2.2.1 g2).1 ?_
        refine v_aload_n O dL_law_326 rfl 0 rfl ?_
        refine v_iload_n O dL_law_327 rfl 3 rfl ?_
        refine v_iconst O dL_law_328 kc_2 ?_
        refine v_iadd O dL_law_329 ?_
        refine v_sld O r dL_law_330 ((h.2 g1).2.2.2.2.2.2.1 g2).2.1 ?_
        refine v_aload_n O dL_law_331 rfl 0 rfl ?_
        refine v_iload_n O dL_law_332 rfl 3 rfl ?_
        refine v_iconst O dL_law_333 kc_3 ?_
        refine v_iadd O dL_law_334 ?_
        refine v_sld O r dL_law_335 ((h.2 g1).2.2.2.2.2.2.1 g2).2.2.1 ?_
        refine v_callV (rm' := { frames := 2, cells := 0, slots := 0, locals := 43 }) (As := [.int (xs (a3 + 1).toNatClampNeg), .int (xs (a3 + 2).toNatClampNeg), .int (xs (a3 + 3).toNatClampNeg)]) (st := []) O dL_law_336 ci_X9_there ml__law_35 mi_X9_there sh_0 rfl ⟨rfl, rfl, (by decide), (by decide)⟩ rfl (Nat.le_of_ble_eq_true rfl) rfl (mX9_there ((h.2 g1).2.2.2.2.2.2.1 g2).2.2.2) (k_I (fun r49 X50 Y51 h52 => ?_))
        refine v_aload_n O dL_law_339 rfl 2 rfl ?_
        refine v_aload_n O dL_law_340 rfl 0 rfl ?_
        refine v_iload_n O dL_law_341 rfl 3 rfl ?_
        refine v_iconst O dL_law_342 kc_1 ?_
        refine v_iadd O dL_law_343 ?_
        refine v_sld O r dL_law_344 ((h.2 g1).2.2.2.2.2.2.1 g2).1 ?_
        refine v_aload_n O dL_law_345 rfl 0 rfl ?_
        refine v_iload_n O dL_law_346 rfl 3 rfl ?_
        refine v_iconst O dL_law_347 kc_2 ?_
        refine v_iadd O dL_law_348 ?_
        refine v_sld O r dL_law_349 ((h.2 g1).2.2.2.2.2.2.1 g2).2.1 ?_
        refine v_aload_n O dL_law_350 rfl 0 rfl ?_
        refine v_iload_n O dL_law_351 rfl 3 rfl ?_
        refine v_iconst O dL_law_352 kc_3 ?_
        refine v_iadd O dL_law_353 ?_
        refine v_sld O r dL_law_354 ((h.2 g1).2.2.2.2.2.2.1 g2).2.2.1 ?_
        refine v_callV (rm' := { frames := 2, cells := 0, slots := 0, locals := 46 }) (As := [.int (xs (a3 + 1).toNatClampNeg), .int (xs (a3 + 2).toNatClampNeg), .int (xs (a3 + 3).toNatClampNeg)]) (st := [.int r49]) O dL_law_355 ci_X10_there ml__law_38 mi_X10_there sh_48 rfl ⟨rfl, rfl, (by decide), (by decide)⟩ rfl (Nat.le_of_ble_eq_true rfl) rfl (mX10_there h52) (k_I (fun r53 X54 Y55 h56 => ?_))
        refine v_icmp_eq (tgt := 1025) O dL_law_358 (by decide) (fun g57 => ?_) (fun g57 => ?_)
        · obtain ⟨w58, hw59⟩ : ∃ y : Int32, y = a3 + 4 := ⟨_, rfl⟩
          refine v_iinc (v := w58) (j := 3) O dL_law_1025 rfl (by rw [hw59]; exact congrArg _ kc_4) (by decide) (lv' := [(3, .int w58), (0, .ref 87), (1, .ref 0), (2, .ref 48)]) rfl ?_
          refine v_goto O dL_law_1028 (tgt := 18) (by decide) ?_
          exact v_loc [1, 2, 3, 0] rfl (e18 w58 X54 Y55 ((h56.1 g57) w58 hw59))
        · refine v_iconst O dL_law_361 kc_0 ?_
          exact False.elim (h56.2 g57)
      | 5, hj =>
        cases hj
        refine v_aload_n O dL_law_363 rfl 1 rfl ?_
        refine v_aload_n O dL_law_364 rfl 0 rfl ?_
        refine v_iload_n O dL_law_365 rfl 3 rfl ?_
        refine v_iconst O dL_law_366 kc_1 ?_
        refine v_iadd O dL_law_367 ?_
        refine v_sld O r dL_law_368 ((h.2 g1).2.2.2.2.2.2.2.1 g2).1 ?_
        refine v_aload_n O dL_law_369 rfl 0 rfl ?_
        refine v_iload_n O dL_law_370 rfl 3 rfl ?_
        refine v_iconst O dL_law_371 kc_2 ?_
        refine v_iadd O dL_law_372 ?_
        refine v_sld O r dL_law_373 ((h.2 g1).2.2.2.2.2.2.2.1 g2).2.1 ?_
        refine v_callV (rm' := { frames := 2, cells := 0, slots := 0, locals := 43 }) (As := [.int (xs (a3 + 1).toNatClampNeg), .int (xs (a3 + 2).toNatClampNeg)]) (st := []) O dL_law_374 ci_X9_weight ml__law_39 mi_X9_weight sh_0 rfl ⟨rfl, rfl, (by decide), (by decide)⟩ rfl (Nat.le_of_ble_eq_true rfl) rfl (mX9_weight ((h.2 g1).2.2.2.2.2.2.2.1 g2).2.2) (k_I (fun r60 X61 Y62 h63 => ?_))
        refine v_aload_n O dL_law_377 rfl 2 rfl ?_
        refine v_aload_n O dL_law_378 rfl 0 rfl ?_
        refine v_iload_n O dL_law_379 rfl 3 rfl ?_
        refine v_iconst O dL_law_380 kc_1 ?_
        refine v_iadd O dL_law_381 ?_
        refine v_sld O r dL_law_382 ((h.2 g1).2.2.2.2.2.2.2.1 g2).1 ?_
        refine v_aload_n O dL_law_383 rfl 0 rfl ?_
        refine v_iload_n O dL_law_384 rfl 3 rfl ?_
        refine v_iconst O dL_law_385 kc_2 ?_
        refine v_iadd O dL_law_386 ?_
        refine v_sld O r dL_law_387 ((h.2 g1).2.2.2.2.2.2.2.1 g2).2.1 ?_
        refine v_callV (rm' := { frames := 2, cells := 0, slots := 0, locals := 46 }) (As := [.int (xs (a3 + 1).toNatClampNeg), .int (xs (a3 + 2).toNatClampNeg)]) (st := [.int r60]) O dL_law_388 ci_X10_weight ml__law_42 mi_X10_weight sh_48 rfl ⟨rfl, rfl, (by decide), (by decide)⟩ rfl (Nat.le_of_ble_eq_true rfl) rfl (mX10_weight h63) (k_I (fun r64 X65 Y66 h67 => ?_))
        refine v_icmp_eq (tgt := 1025) O dL_law_391 (by decide) (fun g68 => ?_) (fun g68 => ?_)
        · obtain ⟨w69, hw70⟩ : ∃ y : Int32, y = a3 + 4 := ⟨_, rfl⟩
          refine v_iinc (v := w69) (j := 3) O dL_law_1025 rfl (by rw [hw70]; exact congrArg _ kc_4) (by decide) (lv' := [(3, .int w69), (0, .ref 87), (1, .ref 0), (2, .ref 48)]) rfl ?_
          refine v_goto O dL_law_1028 (tgt := 18) (by decide) ?_
          exact v_loc [1, 2, 3, 0] rfl (e18 w69 X65 Y66 ((h67.1 g68) w69 hw70))
        · refine v_iconst O dL_law_394 kc_0 ?_
          exact False.elim (h67.2 g68)
      | 6, hj =>
        cases hj
        refine v_aload_n O dL_law_396 rfl 1 rfl ?_
        refine v_aload_n O dL_law_397 rfl 0 rfl ?_
        refine v_iload_n O dL_law_398 rfl 3 rfl ?_
        refine v_iconst O dL_law_399 kc_1 ?_
        refine v_iadd O dL_law_400 ?_
        refine v_sld O r dL_law_401 ((h.2 g1).2.2.2.2.2.2.2.2.1 g2).1 ?_
        refine v_aload_n O dL_law_402 rfl 0 rfl ?_
        refine v_iload_n O dL_law_403 rfl 3 rfl ?_
        refine v_iconst O dL_law_404 kc_2 ?_
        refine v_iadd O dL_law_405 ?_
        refine v_sld O r dL_law_406 ((h.2 g1).2.2.2.2.2.2.2.2.1 g2).2.1 ?_
        refine v_aload_n O dL_law_407 rfl 0 rfl ?_
        refine v_iload_n O dL_law_408 rfl 3 rfl ?_
        refine v_iconst O dL_law_409 kc_3 ?_
        refine v_iadd O dL_law_410 ?_
        refine v_sld O r dL_law_411 ((h.2 g1).2.2.2.2.2.2.2.2.1 g2).2.2.1 ?_
        refine v_if_eq (tgt := 419) O dL_law_412 (by decide) (fun g71 => ?_) (fun g71 => ?_)
        · refine v_iconst O dL_law_419 kc_0 ?_
          exact v_loc [0, 1, 2, 3] rfl (e420 a3 0 (xs (a3 + 2).toNatClampNeg) (xs (a3 + 1).toNatClampNeg) X Y (((h.2 g1).2.2.2.2.2.2.2.2.1 g2).2.2.2.1 g71))
        · refine v_iconst O dL_law_415 kc_1 ?_
          refine v_goto O dL_law_416 (tgt := 420) (by decide) ?_
          exact v_loc [0, 1, 2, 3] rfl (e420 a3 1 (xs (a3 + 2).toNatClampNeg) (xs (a3 + 1).toNatClampNeg) X Y (((h.2 g1).2.2.2.2.2.2.2.2.1 g2).2.2.2.2 g71))
      | 7, hj =>
        cases hj
        refine v_aload_n O dL_law_455 rfl 1 rfl ?_
        refine v_aload_n O dL_law_456 rfl 0 rfl ?_
        refine v_iload_n O dL_law_457 rfl 3 rfl ?_
        refine v_iconst O dL_law_458 kc_1 ?_
        refine v_iadd O dL_law_459 ?_
        refine v_sld O r dL_law_460 ((h.2 g1).2.2.2.2.2.2.2.2.2.1 g2).1 ?_
        refine v_callV (rm' := { frames := 1, cells := 0, slots := 0, locals := 22 }) (As := [.int (xs (a3 + 1).toNatClampNeg)]) (st := []) O dL_law_461 ci_X9_slack ml__law_48 mi_X9_slack sh_0 rfl ⟨rfl, rfl, (by decide), (by decide)⟩ rfl (Nat.le_of_ble_eq_true rfl) rfl (mX9_slack ((h.2 g1).2.2.2.2.2.2.2.2.2.1 g2).2) (k_I (fun r72 X73 Y74 h75 => ?_))
        refine v_aload_n O dL_law_464 rfl 2 rfl ?_
        refine v_aload_n O dL_law_465 rfl 0 rfl ?_
        refine v_iload_n O dL_law_466 rfl 3 rfl ?_
        refine v_iconst O dL_law_467 kc_1 ?_
        refine v_iadd O dL_law_468 ?_
        refine v_sld O r dL_law_469 ((h.2 g1).2.2.2.2.2.2.2.2.2.1 g2).1 ?_
        refine v_callV (rm' := { frames := 1, cells := 0, slots := 0, locals := 25 }) (As := [.int (xs (a3 + 1).toNatClampNeg)]) (st := [.int r72]) O dL_law_470 ci_X10_slack ml__law_52 mi_X10_slack sh_48 rfl ⟨rfl, rfl, (by decide), (by decide)⟩ rfl (Nat.le_of_ble_eq_true rfl) rfl (mX10_slack h75) (k_I (fun r76 X77 Y78 h79 => ?_))
        refine v_icmp_eq (tgt := 1025) O dL_law_473 (by decide) (fun g80 => ?_) (fun g80 => ?_)
        · obtain ⟨w81, hw82⟩ : ∃ y : Int32, y = a3 + 4 := ⟨_, rfl⟩
          refine v_iinc (v := w81) (j := 3) O dL_law_1025 rfl (by rw [hw82]; exact congrArg _ kc_4) (by decide) (lv' := [(3, .int w81), (0, .ref 87), (1, .ref 0), (2, .ref 48)]) rfl ?_
          refine v_goto O dL_law_1028 (tgt := 18) (by decide) ?_
          exact v_loc [1, 2, 3, 0] rfl (e18 w81 X77 Y78 ((h79.1 g80) w81 hw82))
        · refine v_iconst O dL_law_476 kc_0 ?_
          exact False.elim (h79.2 g80)
      | 8, hj =>
        cases hj
        refine v_aload_n O dL_law_478 rfl 1 rfl ?_
        refine v_aload_n O dL_law_479 rfl 0 rfl ?_
        refine v_iload_n O dL_law_480 rfl 3 rfl ?_
        refine v_iconst O dL_law_481 kc_1 ?_
        refine v_iadd O dL_law_482 ?_
        refine v_sld O r dL_law_483 ((h.2 g1).2.2.2.2.2.2.2.2.2.2.1 g2).1 ?_
        refine v_aload_n O dL_law_484 rfl 0 rfl ?_
        refine v_iload_n O dL_law_485 rfl 3 rfl ?_
        refine v_iconst O dL_law_486 kc_2 ?_
        refine v_iadd O dL_law_487 ?_
        refine v_sld O r dL_law_488 ((h.2 g1).2.2.2.2.2.2.2.2.2.2.1 g2).2.1 ?_
        refine v_callV (rm' := { frames := 2, cells := 0, slots := 0, locals := 43 }) (As := [.int (xs (a3 + 1).toNatClampNeg), .int (xs (a3 + 2).toNatClampNeg)]) (st := []) O dL_law_489 ci_X9_told ml__law_53 mi_X9_told sh_0 rfl ⟨rfl, rfl, (by decide), (by decide)⟩ rfl (Nat.le_of_ble_eq_true rfl) rfl (mX9_told ((h.2 g1).2.2.2.2.2.2.2.2.2.2.1 g2).2.2) (k_I (fun r83 X84 Y85 h86 => ?_))
        refine v_aload_n O dL_law_492 rfl 2 rfl ?_
        refine v_aload_n O dL_law_493 rfl 0 rfl ?_
        refine v_iload_n O dL_law_494 rfl 3 rfl ?_
        refine v_iconst O dL_law_495 kc_1 ?_
        refine v_iadd O dL_law_496 ?_
        refine v_sld O r dL_law_497 ((h.2 g1).2.2.2.2.2.2.2.2.2.2.1 g2).1 ?_
        refine v_aload_n O dL_law_498 rfl 0 rfl ?_
        refine v_iload_n O dL_law_499 rfl 3 rfl ?_
        refine v_iconst O dL_law_500 kc_2 ?_
        refine v_iadd O dL_law_501 ?_
        refine v_sld O r dL_law_502 ((h.2 g1).2.2.2.2.2.2.2.2.2.2.1 g2).2.1 ?_
        refine v_callV (rm' := { frames := 2, cells := 0, slots := 0, locals := 46 }) (As := [.int (xs (a3 + 1).toNatClampNeg), .int (xs (a3 + 2).toNatClampNeg)]) (st := [.int r83]) O dL_law_503 ci_X10_told ml__law_56 mi_X10_told sh_48 rfl ⟨rfl, rfl, (by decide), (by decide)⟩ rfl (Nat.le_of_ble_eq_true rfl) rfl (mX10_told h86) (k_I (fun r87 X88 Y89 h90 => ?_))
        refine v_icmp_eq (tgt := 1025) O dL_law_506 (by decide) (fun g91 => ?_) (fun g91 => ?_)
        · obtain ⟨w92, hw93⟩ : ∃ y : Int32, y = a3 + 4 := ⟨_, rfl⟩
          refine v_iinc (v := w92) (j := 3) O dL_law_1025 rfl (by rw [hw93]; exact congrArg _ kc_4) (by decide) (lv' := [(3, .int w92), (0, .ref 87), (1, .ref 0), (2, .ref 48)]) rfl ?_
          refine v_goto O dL_law_1028 (tgt := 18) (by decide) ?_
          exact v_loc [1, 2, 3, 0] rfl (e18 w92 X88 Y89 ((h90.1 g91) w92 hw93))
        · refine v_iconst O dL_law_509 kc_0 ?_
          exact False.elim (h90.2 g91)
      | 9, hj =>
        cases hj
        refine v_aload_n O dL_law_511 rfl 1 rfl ?_
        refine v_aload_n O dL_law_512 rfl 0 rfl ?_
        refine v_iload_n O dL_law_513 rfl 3 rfl ?_
        refine v_iconst O dL_law_514 kc_1 ?_
        refine v_iadd O dL_law_515 ?_
        refine v_sld O r dL_law_516 ((h.2 g1).2.2.2.2.2.2.2.2.2.2.2.1 g2).1 ?_
        refine v_callV (rm' := { frames := 2, cells := 0, slots := 0, locals := 42 }) (As := [.int (xs (a3 + 1).toNatClampNeg)]) (st := []) O dL_law_517 ci_X9_count ml__law_57 mi_X9_count sh_0 rfl ⟨rfl, rfl, (by decide), (by decide)⟩ rfl (Nat.le_of_ble_eq_true rfl) rfl (mX9_count ((h.2 g1).2.2.2.2.2.2.2.2.2.2.2.1 g2).2) (k_I (fun r94 X95 Y96 h97 => ?_))
        refine v_aload_n O dL_law_520 rfl 2 rfl ?_
        refine v_aload_n O dL_law_521 rfl 0 rfl ?_
        refine v_iload_n O dL_law_522 rfl 3 rfl ?_
        refine v_iconst O dL_law_523 kc_1 ?_
        refine v_iadd O dL_law_524 ?_
        refine v_sld O r dL_law_525 ((h.2 g1).2.2.2.2.2.2.2.2.2.2.2.1 g2).1 ?_
        refine v_callV (rm' := { frames := 2, cells := 0, slots := 0, locals := 44 }) (As := [.int (xs (a3 + 1).toNatClampNeg)]) (st := [.int r94]) O dL_law_526 ci_X10_count ml__law_60 mi_X10_count sh_48 rfl ⟨rfl, rfl, (by decide), (by decide)⟩ rfl (Nat.le_of_ble_eq_true rfl) rfl (mX10_count h97) (k_I (fun r98 X99 Y100 h101 => ?_))
        refine v_icmp_eq (tgt := 1025) O dL_law_529 (by decide) (fun g102 => ?_) (fun g102 => ?_)
        · obtain ⟨w103, hw104⟩ : ∃ y : Int32, y = a3 + 4 := ⟨_, rfl⟩
          refine v_iinc (v := w103) (j := 3) O dL_law_1025 rfl (by rw [hw104]; exact congrArg _ kc_4) (by decide) (lv' := [(3, .int w103), (0, .ref 87), (1, .ref 0), (2, .ref 48)]) rfl ?_
          refine v_goto O dL_law_1028 (tgt := 18) (by decide) ?_
          exact v_loc [1, 2, 3, 0] rfl (e18 w103 X99 Y100 ((h101.1 g102) w103 hw104))
        · refine v_iconst O dL_law_532 kc_0 ?_
          exact False.elim (h101.2 g102)
      | 10, hj =>
        cases hj
        refine v_aload_n O dL_law_534 rfl 1 rfl ?_
        refine v_callV (rm' := { frames := 7, cells := 0, slots := 0, locals := 155 }) (As := []) (st := []) O dL_law_535 ci_X9_page ml__law_61 mi_X9_page sh_0 rfl ⟨rfl, rfl, (by decide), (by decide)⟩ rfl (Nat.le_of_ble_eq_true rfl) rfl (mX9_page ((h.2 g1).2.2.2.2.2.2.2.2.2.2.2.2.1 g2)) (k_I (fun r105 X106 Y107 h108 => ?_))
        refine v_aload_n O dL_law_538 rfl 2 rfl ?_
        refine v_callV (rm' := { frames := 4, cells := 0, slots := 0, locals := 90 }) (As := []) (st := [.int r105]) O dL_law_539 ci_X10_page ml__law_64 mi_X10_page sh_48 rfl ⟨rfl, rfl, (by decide), (by decide)⟩ rfl (Nat.le_of_ble_eq_true rfl) rfl (mX10_page h108) (k_I (fun r109 X110 Y111 h112 => ?_))
        refine v_icmp_eq (tgt := 1025) O dL_law_542 (by decide) (fun g113 => ?_) (fun g113 => ?_)
        · obtain ⟨w114, hw115⟩ : ∃ y : Int32, y = a3 + 4 := ⟨_, rfl⟩
          refine v_iinc (v := w114) (j := 3) O dL_law_1025 rfl (by rw [hw115]; exact congrArg _ kc_4) (by decide) (lv' := [(3, .int w114), (0, .ref 87), (1, .ref 0), (2, .ref 48)]) rfl ?_
          refine v_goto O dL_law_1028 (tgt := 18) (by decide) ?_
          exact v_loc [1, 2, 3, 0] rfl (e18 w114 X110 Y111 ((h112.1 g113) w114 hw115))
        · refine v_iconst O dL_law_545 kc_0 ?_
          exact False.elim (h112.2 g113)
      | 11, hj =>
        cases hj
        refine v_aload_n O dL_law_547 rfl 1 rfl ?_
        refine v_callV (rm' := { frames := 0, cells := 0, slots := 0, locals := 0 }) (As := []) (st := []) O dL_law_548 ci_X9_fault ml__law_65 mi_X9_fault sh_0 rfl ⟨rfl, rfl, (by decide), (by decide)⟩ rfl (Nat.le_of_ble_eq_true rfl) rfl (mX9_fault ((h.2 g1).2.2.2.2.2.2.2.2.2.2.2.2.2.1 g2)) (k_I (fun r116 X117 Y118 h119 => ?_))
        refine v_aload_n O dL_law_551 rfl 2 rfl ?_
        refine v_callV (rm' := { frames := 0, cells := 0, slots := 0, locals := 0 }) (As := []) (st := [.int r116]) O dL_law_552 ci_X10_fault ml__law_68 mi_X10_fault sh_48 rfl ⟨rfl, rfl, (by decide), (by decide)⟩ rfl (Nat.le_of_ble_eq_true rfl) rfl (mX10_fault h119) (k_I (fun r120 X121 Y122 h123 => ?_))
        refine v_icmp_eq (tgt := 1025) O dL_law_555 (by decide) (fun g124 => ?_) (fun g124 => ?_)
        · obtain ⟨w125, hw126⟩ : ∃ y : Int32, y = a3 + 4 := ⟨_, rfl⟩
          refine v_iinc (v := w125) (j := 3) O dL_law_1025 rfl (by rw [hw126]; exact congrArg _ kc_4) (by decide) (lv' := [(3, .int w125), (0, .ref 87), (1, .ref 0), (2, .ref 48)]) rfl ?_
          refine v_goto O dL_law_1028 (tgt := 18) (by decide) ?_
          exact v_loc [1, 2, 3, 0] rfl (e18 w125 X121 Y122 ((h123.1 g124) w125 hw126))
        · refine v_iconst O dL_law_558 kc_0 ?_
          exact False.elim (h123.2 g124)
      | 12, hj =>
        cases hj
        refine v_aload_n O dL_law_560 rfl 1 rfl ?_
        refine v_aload_n O dL_law_561 rfl 0 rfl ?_
        refine v_iload_n O dL_law_562 rfl 3 rfl ?_
        refine v_iconst O dL_law_563 kc_1 ?_
        refine v_iadd O dL_law_564 ?_
        refine v_sld O r dL_law_565 ((h.2 g1).2.2.2.2.2.2.2.2.2.2.2.2.2.2.1 g2).1 ?_
        refine v_aload_n O dL_law_566 rfl 0 rfl ?_
        refine v_iload_n O dL_law_567 rfl 3 rfl ?_
        refine v_iconst O dL_law_568 kc_2 ?_
        refine v_iadd O dL_law_569 ?_
        refine v_sld O r dL_law_570 ((h.2 g1).2.2.2.2.2.2.2.2.2.2.2.2.2.2.1 g2).2.1 ?_
        refine v_callV (rm' := { frames := 2, cells := 0, slots := 0, locals := 44 }) (As := [.int (xs (a3 + 1).toNatClampNeg), .int (xs (a3 + 2).toNatClampNeg)]) (st := []) O dL_law_571 ci_X9_place ml__law_69 mi_X9_place sh_0 rfl ⟨rfl, rfl, (by decide), (by decide)⟩ rfl (Nat.le_of_ble_eq_true rfl) rfl (mX9_place ((h.2 g1).2.2.2.2.2.2.2.2.2.2.2.2.2.2.1 g2).2.2) (k_I (fun r127 X128 Y129 h130 => ?_))
        refine v_aload_n O dL_law_574 rfl 2 rfl ?_
        refine v_aload_n O dL_law_575 rfl 0 rfl ?_
        refine v_iload_n O dL_law_576 rfl 3 rfl ?_
        refine v_iconst O dL_law_577 kc_1 ?_
        refine v_iadd O dL_law_578 ?_
        refine v_sld O r dL_law_579 ((h.2 g1).2.2.2.2.2.2.2.2.2.2.2.2.2.2.1 g2).1 ?_
        refine v_aload_n O dL_law_580 rfl 0 rfl ?_
        refine v_iload_n O dL_law_581 rfl 3 rfl ?_
        refine v_iconst O dL_law_582 kc_2 ?_
        refine v_iadd O dL_law_583 ?_
        refine v_sld O r dL_law_584 ((h.2 g1).2.2.2.2.2.2.2.2.2.2.2.2.2.2.1 g2).2.1 ?_
        refine v_callV (rm' := { frames := 2, cells := 0, slots := 0, locals := 45 }) (As := [.int (xs (a3 + 1).toNatClampNeg), .int (xs (a3 + 2).toNatClampNeg)]) (st := [.int r127]) O dL_law_585 ci_X10_place ml__law_72 mi_X10_place sh_48 rfl ⟨rfl, rfl, (by decide), (by decide)⟩ rfl (Nat.le_of_ble_eq_true rfl) rfl (mX10_place h130) (k_I (fun r131 X132 Y133 h134 => ?_))
        refine v_icmp_eq (tgt := 1025) O dL_law_588 (by decide) (fun g135 => ?_) (fun g135 => ?_)
        · obtain ⟨w136, hw137⟩ : ∃ y : Int32, y = a3 + 4 := ⟨_, rfl⟩
          refine v_iinc (v := w136) (j := 3) O dL_law_1025 rfl (by rw [hw137]; exact congrArg _ kc_4) (by decide) (lv' := [(3, .int w136), (0, .ref 87), (1, .ref 0), (2, .ref 48)]) rfl ?_
          refine v_goto O dL_law_1028 (tgt := 18) (by decide) ?_
          exact v_loc [1, 2, 3, 0] rfl (e18 w136 X132 Y133 ((h134.1 g135) w136 hw137))
        · refine v_iconst O dL_law_591 kc_0 ?_
          exact False.elim (h134.2 g135)
      | 13, hj =>
        cases hj
        refine v_aload_n O dL_law_593 rfl 1 rfl ?_
        refine v_aload_n O dL_law_594 rfl 0 rfl ?_
        refine v_iload_n O dL_law_595 rfl 3 rfl ?_
        refine v_iconst O dL_law_596 kc_1 ?_
        refine v_iadd O dL_law_597 ?_
        refine v_sld O r dL_law_598 ((h.2 g1).2.2.2.2.2.2.2.2.2.2.2.2.2.2.2.1 g2).1 ?_
        refine v_aload_n O dL_law_599 rfl 0 rfl ?_
        refine v_iload_n O dL_law_600 rfl 3 rfl ?_
        refine v_iconst O dL_law_601 kc_2 ?_
        refine v_iadd O dL_law_602 ?_
        refine v_sld O r dL_law_603 ((h.2 g1).2.2.2.2.2.2.2.2.2.2.2.2.2.2.2.1 g2).2.1 ?_
        refine v_callV (rm' := { frames := 2, cells := 0, slots := 0, locals := 43 }) (As := [.int (xs (a3 + 1).toNatClampNeg), .int (xs (a3 + 2).toNatClampNeg)]) (st := []) O dL_law_604 ci_X9_twins ml__law_73 mi_X9_twins sh_0 rfl ⟨rfl, rfl, (by decide), (by decide)⟩ rfl (Nat.le_of_ble_eq_true rfl) rfl (mX9_twins ((h.2 g1).2.2.2.2.2.2.2.2.2.2.2.2.2.2.2.1 g2).2.2) (k_I (fun r138 X139 Y140 h141 => ?_))
        refine v_aload_n O dL_law_607 rfl 2 rfl ?_
        refine v_aload_n O dL_law_608 rfl 0 rfl ?_
        refine v_iload_n O dL_law_609 rfl 3 rfl ?_
        refine v_iconst O dL_law_610 kc_1 ?_
        refine v_iadd O dL_law_611 ?_
        refine v_sld O r dL_law_612 ((h.2 g1).2.2.2.2.2.2.2.2.2.2.2.2.2.2.2.1 g2).1 ?_
        refine v_aload_n O dL_law_613 rfl 0 rfl ?_
        refine v_iload_n O dL_law_614 rfl 3 rfl ?_
        refine v_iconst O dL_law_615 kc_2 ?_
        refine v_iadd O dL_law_616 ?_
        refine v_sld O r dL_law_617 ((h.2 g1).2.2.2.2.2.2.2.2.2.2.2.2.2.2.2.1 g2).2.1 ?_
        refine v_callV (rm' := { frames := 2, cells := 0, slots := 0, locals := 46 }) (As := [.int (xs (a3 + 1).toNatClampNeg), .int (xs (a3 + 2).toNatClampNeg)]) (st := [.int r138]) O dL_law_618 ci_X10_twins ml__law_76 mi_X10_twins sh_48 rfl ⟨rfl, rfl, (by decide), (by decide)⟩ rfl (Nat.le_of_ble_eq_true rfl) rfl (mX10_twins h141) (k_I (fun r142 X143 Y144 h145 => ?_))
        refine v_icmp_eq (tgt := 1025) O dL_law_621 (by decide) (fun g146 => ?_) (fun g146 => ?_)
        · obtain ⟨w147, hw148⟩ : ∃ y : Int32, y = a3 + 4 := ⟨_, rfl⟩
          refine v_iinc (v := w147) (j := 3) O dL_law_1025 rfl (by rw [hw148]; exact congrArg _ kc_4) (by decide) (lv' := [(3, .int w147), (0, .ref 87), (1, .ref 0), (2, .ref 48)]) rfl ?_
          refine v_goto O dL_law_1028 (tgt := 18) (by decide) ?_
          exact v_loc [1, 2, 3, 0] rfl (e18 w147 X143 Y144 ((h145.1 g146) w147 hw148))
        · refine v_iconst O dL_law_624 kc_0 ?_
          exact False.elim (h145.2 g146)
      | 14, hj =>
        cases hj
        refine v_aload_n O dL_law_626 rfl 1 rfl ?_
        refine v_callV (rm' := { frames := 6, cells := 0, slots := 0, locals := 137 }) (As := []) (st := []) O dL_law_627 ci_X9_readings ml__law_77 mi_X9_readings sh_0 rfl ⟨rfl, rfl, (by decide), (by decide)⟩ rfl (Nat.le_of_ble_eq_true rfl) rfl (mX9_readings ((h.2 g1).2.2.2.2.2.2.2.2.2.2.2.2.2.2.2.2.1 g2)) (k_I (fun r149 X150 Y151 h152 => ?_))
        refine v_aload_n O dL_law_630 rfl 2 rfl ?_
        refine v_callV (rm' := { frames := 5, cells := 0, slots := 0, locals := 116 }) (As := []) (st := [.int r149]) O dL_law_631 ci_X10_readings ml__law_80 mi_X10_readings sh_48 rfl ⟨rfl, rfl, (by decide), (by decide)⟩ rfl (Nat.le_of_ble_eq_true rfl) rfl (mX10_readings h152) (k_I (fun r153 X154 Y155 h156 => ?_))
        refine v_icmp_eq (tgt := 1025) O dL_law_634 (by decide) (fun g157 => ?_) (fun g157 => ?_)
        · obtain ⟨w158, hw159⟩ : ∃ y : Int32, y = a3 + 4 := ⟨_, rfl⟩
          refine v_iinc (v := w158) (j := 3) O dL_law_1025 rfl (by rw [hw159]; exact congrArg _ kc_4) (by decide) (lv' := [(3, .int w158), (0, .ref 87), (1, .ref 0), (2, .ref 48)]) rfl ?_
          refine v_goto O dL_law_1028 (tgt := 18) (by decide) ?_
          exact v_loc [1, 2, 3, 0] rfl (e18 w158 X154 Y155 ((h156.1 g157) w158 hw159))
        · refine v_iconst O dL_law_637 kc_0 ?_
          exact False.elim (h156.2 g157)
      | 15, hj =>
        cases hj
        refine v_aload_n O dL_law_639 rfl 1 rfl ?_
        refine v_aload_n O dL_law_640 rfl 0 rfl ?_
        refine v_iload_n O dL_law_641 rfl 3 rfl ?_
        refine v_iconst O dL_law_642 kc_1 ?_
        refine v_iadd O dL_law_643 ?_
        refine v_sld O r dL_law_644 ((h.2 g1).2.2.2.2.2.2.2.2.2.2.2.2.2.2.2.2.2.1 g2).1 ?_
        refine v_aload_n O dL_law_645 rfl 0 rfl ?_
        refine v_iload_n O dL_law_646 rfl 3 rfl ?_
        refine v_iconst O dL_law_647 kc_2 ?_
        refine v_iadd O dL_law_648 ?_
        refine v_sld O r dL_law_649 ((h.2 g1).2.2.2.2.2.2.2.2.2.2.2.2.2.2.2.2.2.1 g2).2.1 ?_
        refine v_callV (rm' := { frames := 5, cells := 0, slots := 0, locals := 116 }) (As := [.int (xs (a3 + 1).toNatClampNeg), .int (xs (a3 + 2).toNatClampNeg)]) (st := []) O dL_law_650 ci_X9_reading ml__law_81 mi_X9_reading sh_0 rfl ⟨rfl, rfl, (by decide), (by decide)⟩ rfl (Nat.le_of_ble_eq_true rfl) rfl (mX9_reading ((h.2 g1).2.2.2.2.2.2.2.2.2.2.2.2.2.2.2.2.2.1 g2).2.2) (k_I (fun r160 X161 Y162 h163 => ?_))
        refine v_aload_n O dL_law_653 rfl 2 rfl ?_
        refine v_aload_n O dL_law_654 rfl 0 rfl ?_
        refine v_iload_n O dL_law_655 rfl 3 rfl ?_
        refine v_iconst O dL_law_656 kc_1 ?_
        refine v_iadd O dL_law_657 ?_
        refine v_sld O r dL_law_658 ((h.2 g1).2.2.2.2.2.2.2.2.2.2.2.2.2.2.2.2.2.1 g2).1 ?_
        refine v_aload_n O dL_law_659 rfl 0 rfl ?_
        refine v_iload_n O dL_law_660 rfl 3 rfl ?_
        refine v_iconst O dL_law_661 kc_2 ?_
        refine v_iadd O dL_law_662 ?_
        refine v_sld O r dL_law_663 ((h.2 g1).2.2.2.2.2.2.2.2.2.2.2.2.2.2.2.2.2.1 g2).2.1 ?_
        refine v_callV (rm' := { frames := 5, cells := 0, slots := 0, locals := 116 }) (As := [.int (xs (a3 + 1).toNatClampNeg), .int (xs (a3 + 2).toNatClampNeg)]) (st := [.int r160]) O dL_law_664 ci_X10_reading ml__law_84 mi_X10_reading sh_48 rfl ⟨rfl, rfl, (by decide), (by decide)⟩ rfl (Nat.le_of_ble_eq_true rfl) rfl (mX10_reading h163) (k_I (fun r164 X165 Y166 h167 => ?_))
        refine v_icmp_eq (tgt := 1025) O dL_law_667 (by decide) (fun g168 => ?_) (fun g168 => ?_)
        · obtain ⟨w169, hw170⟩ : ∃ y : Int32, y = a3 + 4 := ⟨_, rfl⟩
          refine v_iinc (v := w169) (j := 3) O dL_law_1025 rfl (by rw [hw170]; exact congrArg _ kc_4) (by decide) (lv' := [(3, .int w169), (0, .ref 87), (1, .ref 0), (2, .ref 48)]) rfl ?_
          refine v_goto O dL_law_1028 (tgt := 18) (by decide) ?_
          exact v_loc [1, 2, 3, 0] rfl (e18 w169 X165 Y166 ((h167.1 g168) w169 hw170))
        · refine v_iconst O dL_law_670 kc_0 ?_
          exact False.elim (h167.2 g168)
      | 16, hj =>
        cases hj
        refine v_aload_n O dL_law_672 rfl 1 rfl ?_
        refine v_aload_n O dL_law_673 rfl 0 rfl ?_
        refine v_iload_n O dL_law_674 rfl 3 rfl ?_
        refine v_iconst O dL_law_675 kc_1 ?_
        refine v_iadd O dL_law_676 ?_
        refine v_sld O r dL_law_677 ((h.2 g1).2.2.2.2.2.2.2.2.2.2.2.2.2.2.2.2.2.2.1 g2).1 ?_
        refine v_callV (rm' := { frames := 6, cells := 0, slots := 0, locals := 138 }) (As := [.int (xs (a3 + 1).toNatClampNeg)]) (st := []) O dL_law_678 ci_X9_may ml__law_85 mi_X9_may sh_0 rfl ⟨rfl, rfl, (by decide), (by decide)⟩ rfl (Nat.le_of_ble_eq_true rfl) rfl (mX9_may ((h.2 g1).2.2.2.2.2.2.2.2.2.2.2.2.2.2.2.2.2.2.1 g2).2) (k_I (fun r171 X172 Y173 h174 => ?_))
        refine v_aload_n O dL_law_681 rfl 2 rfl ?_
        refine v_aload_n O dL_law_682 rfl 0 rfl ?_
        refine v_iload_n O dL_law_683 rfl 3 rfl ?_
        refine v_iconst O dL_law_684 kc_1 ?_
        refine v_iadd O dL_law_685 ?_
        refine v_sld O r dL_law_686 ((h.2 g1).2.2.2.2.2.2.2.2.2.2.2.2.2.2.2.2.2.2.1 g2).1 ?_
        refine v_callV (rm' := { frames := 5, cells := 0, slots := 0, locals := 116 }) (As := [.int (xs (a3 + 1).toNatClampNeg)]) (st := [.int r171]) O dL_law_687 ci_X10_may ml__law_88 mi_X10_may sh_48 rfl ⟨rfl, rfl, (by decide), (by decide)⟩ rfl (Nat.le_of_ble_eq_true rfl) rfl (mX10_may h174) (k_I (fun r175 X176 Y177 h178 => ?_))
        refine v_icmp_eq (tgt := 1025) O dL_law_690 (by decide) (fun g179 => ?_) (fun g179 => ?_)
        · obtain ⟨w180, hw181⟩ : ∃ y : Int32, y = a3 + 4 := ⟨_, rfl⟩
          refine v_iinc (v := w180) (j := 3) O dL_law_1025 rfl (by rw [hw181]; exact congrArg _ kc_4) (by decide) (lv' := [(3, .int w180), (0, .ref 87), (1, .ref 0), (2, .ref 48)]) rfl ?_
          refine v_goto O dL_law_1028 (tgt := 18) (by decide) ?_
          exact v_loc [1, 2, 3, 0] rfl (e18 w180 X176 Y177 ((h178.1 g179) w180 hw181))
        · refine v_iconst O dL_law_693 kc_0 ?_
          exact False.elim (h178.2 g179)
      | 17, hj =>
        cases hj
        refine v_aload_n O dL_law_695 rfl 1 rfl ?_
        refine v_aload_n O dL_law_696 rfl 0 rfl ?_
        refine v_iload_n O dL_law_697 rfl 3 rfl ?_
        refine v_iconst O dL_law_698 kc_1 ?_
        refine v_iadd O dL_law_699 ?_
        refine v_sld O r dL_law_700 ((h.2 g1).2.2.2.2.2.2.2.2.2.2.2.2.2.2.2.2.2.2.2.1 g2).1 ?_
        refine v_callV (rm' := { frames := 3, cells := 0, slots := 0, locals := 70 }) (As := [.int (xs (a3 + 1).toNatClampNeg)]) (st := []) O dL_law_701 ci_X9_fits ml__law_89 mi_X9_fits sh_0 rfl ⟨rfl, rfl, (by decide), (by decide)⟩ rfl (Nat.le_of_ble_eq_true rfl) rfl (mX9_fits ((h.2 g1).2.2.2.2.2.2.2.2.2.2.2.2.2.2.2.2.2.2.2.1 g2).2) (k_I (fun r182 X183 Y184 h185 => ?_))
        refine v_aload_n O dL_law_704 rfl 2 rfl ?_
        refine v_aload_n O dL_law_705 rfl 0 rfl ?_
        refine v_iload_n O dL_law_706 rfl 3 rfl ?_
        refine v_iconst O dL_law_707 kc_1 ?_
        refine v_iadd O dL_law_708 ?_
        refine v_sld O r dL_law_709 ((h.2 g1).2.2.2.2.2.2.2.2.2.2.2.2.2.2.2.2.2.2.2.1 g2).1 ?_
        refine v_callV (rm' := { frames := 3, cells := 0, slots := 0, locals := 68 }) (As := [.int (xs (a3 + 1).toNatClampNeg)]) (st := [.int r182]) O dL_law_710 ci_X10_fits ml__law_92 mi_X10_fits sh_48 rfl ⟨rfl, rfl, (by decide), (by decide)⟩ rfl (Nat.le_of_ble_eq_true rfl) rfl (mX10_fits h185) (k_I (fun r186 X187 Y188 h189 => ?_))
        refine v_icmp_eq (tgt := 1025) O dL_law_713 (by decide) (fun g190 => ?_) (fun g190 => ?_)
        · obtain ⟨w191, hw192⟩ : ∃ y : Int32, y = a3 + 4 := ⟨_, rfl⟩
          refine v_iinc (v := w191) (j := 3) O dL_law_1025 rfl (by rw [hw192]; exact congrArg _ kc_4) (by decide) (lv' := [(3, .int w191), (0, .ref 87), (1, .ref 0), (2, .ref 48)]) rfl ?_
          refine v_goto O dL_law_1028 (tgt := 18) (by decide) ?_
          exact v_loc [1, 2, 3, 0] rfl (e18 w191 X187 Y188 ((h189.1 g190) w191 hw192))
        · refine v_iconst O dL_law_716 kc_0 ?_
          exact False.elim (h189.2 g190)
      | 18, hj =>
        cases hj
        refine v_aload_n O dL_law_718 rfl 1 rfl ?_
        refine v_aload_n O dL_law_719 rfl 0 rfl ?_
        refine v_iload_n O dL_law_720 rfl 3 rfl ?_
        refine v_iconst O dL_law_721 kc_1 ?_
        refine v_iadd O dL_law_722 ?_
        refine v_sld O r dL_law_723 ((h.2 g1).2.2.2.2.2.2.2.2.2.2.2.2.2.2.2.2.2.2.2.2.1 g2).1 ?_
        refine v_aload_n O dL_law_724 rfl 0 rfl ?_
        refine v_iload_n O dL_law_725 rfl 3 rfl ?_
        refine v_iconst O dL_law_726 kc_2 ?_
        refine v_iadd O dL_law_727 ?_
        refine v_sld O r dL_law_728 ((h.2 g1).2.2.2.2.2.2.2.2.2.2.2.2.2.2.2.2.2.2.2.2.1 g2).2.1 ?_
        refine v_aload_n O dL_law_729 rfl 0 rfl ?_
        refine v_iload_n O dL_law_730 rfl 3 rfl ?_
        refine v_iconst O dL_law_731 kc_3 ?_
        refine v_iadd O dL_law_732 ?_
        refine v_sld O r dL_law_733 ((h.2 g1).2.2.2.2.2.2.2.2.2.2.2.2.2.2.2.2.2.2.2.2.1 g2).2.2.1 ?_
        refine v_callV (rm' := { frames := 5, cells := 0, slots := 0, locals := 116 }) (As := [.int (xs (a3 + 1).toNatClampNeg), .int (xs (a3 + 2).toNatClampNeg), .int (xs (a3 + 3).toNatClampNeg)]) (st := []) O dL_law_734 ci_X9_odds ml__law_93 mi_X9_odds sh_0 rfl ⟨rfl, rfl, (by decide), (by decide)⟩ rfl (Nat.le_of_ble_eq_true rfl) rfl (mX9_odds ((h.2 g1).2.2.2.2.2.2.2.2.2.2.2.2.2.2.2.2.2.2.2.2.1 g2).2.2.2) (k_L (fun r193 X194 Y195 h196 => ?_))
        refine v_aload_n O dL_law_737 rfl 2 rfl ?_
        refine v_aload_n O dL_law_738 rfl 0 rfl ?_
        refine v_iload_n O dL_law_739 rfl 3 rfl ?_
        refine v_iconst O dL_law_740 kc_1 ?_
        refine v_iadd O dL_law_741 ?_
        refine v_sld O r dL_law_742 ((h.2 g1).2.2.2.2.2.2.2.2.2.2.2.2.2.2.2.2.2.2.2.2.1 g2).1 ?_
        refine v_aload_n O dL_law_743 rfl 0 rfl ?_
        refine v_iload_n O dL_law_744 rfl 3 rfl ?_
        refine v_iconst O dL_law_745 kc_2 ?_
        refine v_iadd O dL_law_746 ?_
        refine v_sld O r dL_law_747 ((h.2 g1).2.2.2.2.2.2.2.2.2.2.2.2.2.2.2.2.2.2.2.2.1 g2).2.1 ?_
        refine v_aload_n O dL_law_748 rfl 0 rfl ?_
        refine v_iload_n O dL_law_749 rfl 3 rfl ?_
        refine v_iconst O dL_law_750 kc_3 ?_
        refine v_iadd O dL_law_751 ?_
        refine v_sld O r dL_law_752 ((h.2 g1).2.2.2.2.2.2.2.2.2.2.2.2.2.2.2.2.2.2.2.2.1 g2).2.2.1 ?_
        refine v_callV (rm' := { frames := 5, cells := 0, slots := 0, locals := 116 }) (As := [.int (xs (a3 + 1).toNatClampNeg), .int (xs (a3 + 2).toNatClampNeg), .int (xs (a3 + 3).toNatClampNeg)]) (st := [.long r193]) O dL_law_753 ci_X10_odds ml__law_97 mi_X10_odds sh_48 rfl ⟨rfl, rfl, (by decide), (by decide)⟩ rfl (Nat.le_of_ble_eq_true rfl) rfl (mX10_odds h196) (k_L (fun r197 X198 Y199 h200 => ?_))
        refine v_lcmp O dL_law_756 ?_
        refine v_if_eq (tgt := 1025) O dL_law_757 (by decide) (fun g201 => ?_) (fun g201 => ?_)
        · obtain ⟨w202, hw203⟩ : ∃ y : Int32, y = a3 + 4 := ⟨_, rfl⟩
          refine v_iinc (v := w202) (j := 3) O dL_law_1025 rfl (by rw [hw203]; exact congrArg _ kc_4) (by decide) (lv' := [(3, .int w202), (0, .ref 87), (1, .ref 0), (2, .ref 48)]) rfl ?_
          refine v_goto O dL_law_1028 (tgt := 18) (by decide) ?_
          exact v_loc [1, 2, 3, 0] rfl (e18 w202 X198 Y199 ((h200.1 g201) w202 hw203))
        · refine v_iconst O dL_law_760 kc_0 ?_
          exact False.elim (h200.2 g201)
      | 19, hj =>
        cases hj
        refine v_aload_n O dL_law_762 rfl 1 rfl ?_
        refine v_aload_n O dL_law_763 rfl 0 rfl ?_
        refine v_iload_n O dL_law_764 rfl 3 rfl ?_
        refine v_iconst O dL_law_765 kc_1 ?_
        refine v_iadd O dL_law_766 ?_
        refine v_sld O r dL_law_767 ((h.2 g1).2.2.2.2.2.2.2.2.2.2.2.2.2.2.2.2.2.2.2.2.2.1 g2).1 ?_
        refine v_callV (rm' := { frames := 5, cells := 0, slots := 0, locals := 116 }) (As := [.int (xs (a3 + 1).toNatClampNeg)]) (st := []) O dL_law_768 ci_X9_on ml__law_98 mi_X9_on sh_0 rfl ⟨rfl, rfl, (by decide), (by decide)⟩ rfl (Nat.le_of_ble_eq_true rfl) rfl (mX9_on ((h.2 g1).2.2.2.2.2.2.2.2.2.2.2.2.2.2.2.2.2.2.2.2.2.1 g2).2) (k_I (fun r204 X205 Y206 h207 => ?_))
        refine v_aload_n O dL_law_771 rfl 2 rfl ?_
        refine v_aload_n O dL_law_772 rfl 0 rfl ?_
        refine v_iload_n O dL_law_773 rfl 3 rfl ?_
        refine v_iconst O dL_law_774 kc_1 ?_
        refine v_iadd O dL_law_775 ?_
        refine v_sld O r dL_law_776 ((h.2 g1).2.2.2.2.2.2.2.2.2.2.2.2.2.2.2.2.2.2.2.2.2.1 g2).1 ?_
        refine v_callV (rm' := { frames := 5, cells := 0, slots := 0, locals := 116 }) (As := [.int (xs (a3 + 1).toNatClampNeg)]) (st := [.int r204]) O dL_law_777 ci_X10_on ml__law_101 mi_X10_on sh_48 rfl ⟨rfl, rfl, (by decide), (by decide)⟩ rfl (Nat.le_of_ble_eq_true rfl) rfl (mX10_on h207) (k_I (fun r208 X209 Y210 h211 => ?_))
        refine v_icmp_eq (tgt := 1025) O dL_law_780 (by decide) (fun g212 => ?_) (fun g212 => ?_)
        · obtain ⟨w213, hw214⟩ : ∃ y : Int32, y = a3 + 4 := ⟨_, rfl⟩
          refine v_iinc (v := w213) (j := 3) O dL_law_1025 rfl (by rw [hw214]; exact congrArg _ kc_4) (by decide) (lv' := [(3, .int w213), (0, .ref 87), (1, .ref 0), (2, .ref 48)]) rfl ?_
          refine v_goto O dL_law_1028 (tgt := 18) (by decide) ?_
          exact v_loc [1, 2, 3, 0] rfl (e18 w213 X209 Y210 ((h211.1 g212) w213 hw214))
        · refine v_iconst O dL_law_783 kc_0 ?_
          exact False.elim (h211.2 g212)
      | 20, hj =>
        cases hj
        refine v_aload_n O dL_law_785 rfl 1 rfl ?_
        refine v_aload_n O dL_law_786 rfl 0 rfl ?_
        refine v_iload_n O dL_law_787 rfl 3 rfl ?_
        refine v_iconst O dL_law_788 kc_1 ?_
        refine v_iadd O dL_law_789 ?_
        refine v_sld O r dL_law_790 ((h.2 g1).2.2.2.2.2.2.2.2.2.2.2.2.2.2.2.2.2.2.2.2.2.2.1 g2).1 ?_
        refine v_aload_n O dL_law_791 rfl 0 rfl ?_
        refine v_iload_n O dL_law_792 rfl 3 rfl ?_
        refine v_iconst O dL_law_793 kc_2 ?_
        refine v_iadd O dL_law_794 ?_
        refine v_sld O r dL_law_795 ((h.2 g1).2.2.2.2.2.2.2.2.2.2.2.2.2.2.2.2.2.2.2.2.2.2.1 g2).2.1 ?_
        refine v_callV (rm' := { frames := 2, cells := 0, slots := 0, locals := 41 }) (As := [.int (xs (a3 + 1).toNatClampNeg), .int (xs (a3 + 2).toNatClampNeg)]) (st := []) O dL_law_796 ci_X9_away ml__law_102 mi_X9_away sh_0 rfl ⟨rfl, rfl, (by decide), (by decide)⟩ rfl (Nat.le_of_ble_eq_true rfl) rfl (mX9_away ((h.2 g1).2.2.2.2.2.2.2.2.2.2.2.2.2.2.2.2.2.2.2.2.2.2.1 g2).2.2) (k_I (fun r215 X216 Y217 h218 => ?_))
        refine v_aload_n O dL_law_799 rfl 2 rfl ?_
        refine v_aload_n O dL_law_800 rfl 0 rfl ?_
        refine v_iload_n O dL_law_801 rfl 3 rfl ?_
        refine v_iconst O dL_law_802 kc_1 ?_
        refine v_iadd O dL_law_803 ?_
        refine v_sld O r dL_law_804 ((h.2 g1).2.2.2.2.2.2.2.2.2.2.2.2.2.2.2.2.2.2.2.2.2.2.1 g2).1 ?_
        refine v_aload_n O dL_law_805 rfl 0 rfl ?_
        refine v_iload_n O dL_law_806 rfl 3 rfl ?_
        refine v_iconst O dL_law_807 kc_2 ?_
        refine v_iadd O dL_law_808 ?_
        refine v_sld O r dL_law_809 ((h.2 g1).2.2.2.2.2.2.2.2.2.2.2.2.2.2.2.2.2.2.2.2.2.2.1 g2).2.1 ?_
        refine v_callV (rm' := { frames := 2, cells := 0, slots := 0, locals := 46 }) (As := [.int (xs (a3 + 1).toNatClampNeg), .int (xs (a3 + 2).toNatClampNeg)]) (st := [.int r215]) O dL_law_810 ci_X10_away ml__law_105 mi_X10_away sh_48 rfl ⟨rfl, rfl, (by decide), (by decide)⟩ rfl (Nat.le_of_ble_eq_true rfl) rfl (mX10_away h218) (k_I (fun r219 X220 Y221 h222 => ?_))
        refine v_icmp_eq (tgt := 1025) O dL_law_813 (by decide) (fun g223 => ?_) (fun g223 => ?_)
        · obtain ⟨w224, hw225⟩ : ∃ y : Int32, y = a3 + 4 := ⟨_, rfl⟩
          refine v_iinc (v := w224) (j := 3) O dL_law_1025 rfl (by rw [hw225]; exact congrArg _ kc_4) (by decide) (lv' := [(3, .int w224), (0, .ref 87), (1, .ref 0), (2, .ref 48)]) rfl ?_
          refine v_goto O dL_law_1028 (tgt := 18) (by decide) ?_
          exact v_loc [1, 2, 3, 0] rfl (e18 w224 X220 Y221 ((h222.1 g223) w224 hw225))
        · refine v_iconst O dL_law_816 kc_0 ?_
          exact False.elim (h222.2 g223)
      | 21, hj =>
        cases hj
        refine v_aload_n O dL_law_818 rfl 1 rfl ?_
        refine v_aload_n O dL_law_819 rfl 0 rfl ?_
        refine v_iload_n O dL_law_820 rfl 3 rfl ?_
        refine v_iconst O dL_law_821 kc_1 ?_
        refine v_iadd O dL_law_822 ?_
        refine v_sld O r dL_law_823 ((h.2 g1).2.2.2.2.2.2.2.2.2.2.2.2.2.2.2.2.2.2.2.2.2.2.2.1 g2).1 ?_
        refine v_aload_n O dL_law_824 rfl 0 rfl ?_
        refine v_iload_n O dL_law_825 rfl 3 rfl ?_
        refine v_iconst O dL_law_826 kc_2 ?_
        refine v_iadd O dL_law_827 ?_
        refine v_sld O r dL_law_828 ((h.2 g1).2.2.2.2.2.2.2.2.2.2.2.2.2.2.2.2.2.2.2.2.2.2.2.1 g2).2.1 ?_
        refine v_aload_n O dL_law_829 rfl 0 rfl ?_
        refine v_iload_n O dL_law_830 rfl 3 rfl ?_
        refine v_iconst O dL_law_831 kc_3 ?_
        refine v_iadd O dL_law_832 ?_
        refine v_sld O r dL_law_833 ((h.2 g1).2.2.2.2.2.2.2.2.2.2.2.2.2.2.2.2.2.2.2.2.2.2.2.1 g2).2.2.1 ?_
        refine v_callV (rm' := { frames := 2, cells := 0, slots := 0, locals := 43 }) (As := [.int (xs (a3 + 1).toNatClampNeg), .int (xs (a3 + 2).toNatClampNeg), .int (xs (a3 + 3).toNatClampNeg)]) (st := []) O dL_law_834 ci_X9_knows ml__law_106 mi_X9_knows sh_0 rfl ⟨rfl, rfl, (by decide), (by decide)⟩ rfl (Nat.le_of_ble_eq_true rfl) rfl (mX9_knows ((h.2 g1).2.2.2.2.2.2.2.2.2.2.2.2.2.2.2.2.2.2.2.2.2.2.2.1 g2).2.2.2) (k_I (fun r226 X227 Y228 h229 => ?_))
        refine v_aload_n O dL_law_837 rfl 2 rfl ?_
        refine v_aload_n O dL_law_838 rfl 0 rfl ?_
        refine v_iload_n O dL_law_839 rfl 3 rfl ?_
        refine v_iconst O dL_law_840 kc_1 ?_
        refine v_iadd O dL_law_841 ?_
        refine v_sld O r dL_law_842 ((h.2 g1).2.2.2.2.2.2.2.2.2.2.2.2.2.2.2.2.2.2.2.2.2.2.2.1 g2).1 ?_
        refine v_aload_n O dL_law_843 rfl 0 rfl ?_
        refine v_iload_n O dL_law_844 rfl 3 rfl ?_
        refine v_iconst O dL_law_845 kc_2 ?_
        refine v_iadd O dL_law_846 ?_
        refine v_sld O r dL_law_847 ((h.2 g1).2.2.2.2.2.2.2.2.2.2.2.2.2.2.2.2.2.2.2.2.2.2.2.1 g2).2.1 ?_
        refine v_aload_n O dL_law_848 rfl 0 rfl ?_
        refine v_iload_n O dL_law_849 rfl 3 rfl ?_
        refine v_iconst O dL_law_850 kc_3 ?_
        refine v_iadd O dL_law_851 ?_
        refine v_sld O r dL_law_852 ((h.2 g1).2.2.2.2.2.2.2.2.2.2.2.2.2.2.2.2.2.2.2.2.2.2.2.1 g2).2.2.1 ?_
        refine v_callV (rm' := { frames := 2, cells := 0, slots := 0, locals := 46 }) (As := [.int (xs (a3 + 1).toNatClampNeg), .int (xs (a3 + 2).toNatClampNeg), .int (xs (a3 + 3).toNatClampNeg)]) (st := [.int r226]) O dL_law_853 ci_X10_knows ml__law_109 mi_X10_knows sh_48 rfl ⟨rfl, rfl, (by decide), (by decide)⟩ rfl (Nat.le_of_ble_eq_true rfl) rfl (mX10_knows h229) (k_I (fun r230 X231 Y232 h233 => ?_))
        refine v_icmp_eq (tgt := 1025) O dL_law_856 (by decide) (fun g234 => ?_) (fun g234 => ?_)
        · obtain ⟨w235, hw236⟩ : ∃ y : Int32, y = a3 + 4 := ⟨_, rfl⟩
          refine v_iinc (v := w235) (j := 3) O dL_law_1025 rfl (by rw [hw236]; exact congrArg _ kc_4) (by decide) (lv' := [(3, .int w235), (0, .ref 87), (1, .ref 0), (2, .ref 48)]) rfl ?_
          refine v_goto O dL_law_1028 (tgt := 18) (by decide) ?_
          exact v_loc [1, 2, 3, 0] rfl (e18 w235 X231 Y232 ((h233.1 g234) w235 hw236))
        · refine v_iconst O dL_law_859 kc_0 ?_
          exact False.elim (h233.2 g234)
      | 22, hj =>
        cases hj
        refine v_aload_n O dL_law_861 rfl 1 rfl ?_
        refine v_aload_n O dL_law_862 rfl 0 rfl ?_
        refine v_iload_n O dL_law_863 rfl 3 rfl ?_
        refine v_iconst O dL_law_864 kc_1 ?_
        refine v_iadd O dL_law_865 ?_
        refine v_sld O r dL_law_866 ((h.2 g1).2.2.2.2.2.2.2.2.2.2.2.2.2.2.2.2.2.2.2.2.2.2.2.2.1 g2).1 ?_
        refine v_callV (rm' := { frames := 6, cells := 0, slots := 0, locals := 137 }) (As := [.int (xs (a3 + 1).toNatClampNeg)]) (st := []) O dL_law_867 ci_X9_together ml__law_110 mi_X9_together sh_0 rfl ⟨rfl, rfl, (by decide), (by decide)⟩ rfl (Nat.le_of_ble_eq_true rfl) rfl (mX9_together ((h.2 g1).2.2.2.2.2.2.2.2.2.2.2.2.2.2.2.2.2.2.2.2.2.2.2.2.1 g2).2) (k_I (fun r237 X238 Y239 h240 => ?_))
        refine v_aload_n O dL_law_870 rfl 2 rfl ?_
        refine v_aload_n O dL_law_871 rfl 0 rfl ?_
        refine v_iload_n O dL_law_872 rfl 3 rfl ?_
        refine v_iconst O dL_law_873 kc_1 ?_
        refine v_iadd O dL_law_874 ?_
        refine v_sld O r dL_law_875 ((h.2 g1).2.2.2.2.2.2.2.2.2.2.2.2.2.2.2.2.2.2.2.2.2.2.2.2.1 g2).1 ?_
        refine v_callV (rm' := { frames := 5, cells := 0, slots := 0, locals := 116 }) (As := [.int (xs (a3 + 1).toNatClampNeg)]) (st := [.int r237]) O dL_law_876 ci_X10_together ml__law_113 mi_X10_together sh_48 rfl ⟨rfl, rfl, (by decide), (by decide)⟩ rfl (Nat.le_of_ble_eq_true rfl) rfl (mX10_together h240) (k_I (fun r241 X242 Y243 h244 => ?_))
        refine v_icmp_eq (tgt := 1025) O dL_law_879 (by decide) (fun g245 => ?_) (fun g245 => ?_)
        · obtain ⟨w246, hw247⟩ : ∃ y : Int32, y = a3 + 4 := ⟨_, rfl⟩
          refine v_iinc (v := w246) (j := 3) O dL_law_1025 rfl (by rw [hw247]; exact congrArg _ kc_4) (by decide) (lv' := [(3, .int w246), (0, .ref 87), (1, .ref 0), (2, .ref 48)]) rfl ?_
          refine v_goto O dL_law_1028 (tgt := 18) (by decide) ?_
          exact v_loc [1, 2, 3, 0] rfl (e18 w246 X242 Y243 ((h244.1 g245) w246 hw247))
        · refine v_iconst O dL_law_882 kc_0 ?_
          exact False.elim (h244.2 g245)
      | 23, hj =>
        cases hj
        refine v_aload_n O dL_law_884 rfl 1 rfl ?_
        refine v_aload_n O dL_law_885 rfl 0 rfl ?_
        refine v_iload_n O dL_law_886 rfl 3 rfl ?_
        refine v_iconst O dL_law_887 kc_1 ?_
        refine v_iadd O dL_law_888 ?_
        refine v_sld O r dL_law_889 ((h.2 g1).2.2.2.2.2.2.2.2.2.2.2.2.2.2.2.2.2.2.2.2.2.2.2.2.2.1 g2).1 ?_
        refine v_aload_n O dL_law_890 rfl 0 rfl ?_
        refine v_iload_n O dL_law_891 rfl 3 rfl ?_
        refine v_iconst O dL_law_892 kc_2 ?_
        refine v_iadd O dL_law_893 ?_
        refine v_sld O r dL_law_894 ((h.2 g1).2.2.2.2.2.2.2.2.2.2.2.2.2.2.2.2.2.2.2.2.2.2.2.2.2.1 g2).2.1 ?_
        refine v_callV (rm' := { frames := 6, cells := 0, slots := 0, locals := 138 }) (As := [.int (xs (a3 + 1).toNatClampNeg), .int (xs (a3 + 2).toNatClampNeg)]) (st := []) O dL_law_895 ci_X9_sees ml__law_114 mi_X9_sees sh_0 rfl ⟨rfl, rfl, (by decide), (by decide)⟩ rfl (Nat.le_of_ble_eq_true rfl) rfl (mX9_sees ((h.2 g1).2.2.2.2.2.2.2.2.2.2.2.2.2.2.2.2.2.2.2.2.2.2.2.2.2.1 g2).2.2) (k_I (fun r248 X249 Y250 h251 => ?_))
        refine v_aload_n O dL_law_898 rfl 2 rfl ?_
        refine v_aload_n O dL_law_899 rfl 0 rfl ?_
        refine v_iload_n O dL_law_900 rfl 3 rfl ?_
        refine v_iconst O dL_law_901 kc_1 ?_
        refine v_iadd O dL_law_902 ?_
        refine v_sld O r dL_law_903 ((h.2 g1).2.2.2.2.2.2.2.2.2.2.2.2.2.2.2.2.2.2.2.2.2.2.2.2.2.1 g2).1 ?_
        refine v_aload_n O dL_law_904 rfl 0 rfl ?_
        refine v_iload_n O dL_law_905 rfl 3 rfl ?_
        refine v_iconst O dL_law_906 kc_2 ?_
        refine v_iadd O dL_law_907 ?_
        refine v_sld O r dL_law_908 ((h.2 g1).2.2.2.2.2.2.2.2.2.2.2.2.2.2.2.2.2.2.2.2.2.2.2.2.2.1 g2).2.1 ?_
        refine v_callV (rm' := { frames := 5, cells := 0, slots := 0, locals := 116 }) (As := [.int (xs (a3 + 1).toNatClampNeg), .int (xs (a3 + 2).toNatClampNeg)]) (st := [.int r248]) O dL_law_909 ci_X10_sees ml__law_117 mi_X10_sees sh_48 rfl ⟨rfl, rfl, (by decide), (by decide)⟩ rfl (Nat.le_of_ble_eq_true rfl) rfl (mX10_sees h251) (k_I (fun r252 X253 Y254 h255 => ?_))
        refine v_icmp_eq (tgt := 1025) O dL_law_912 (by decide) (fun g256 => ?_) (fun g256 => ?_)
        · obtain ⟨w257, hw258⟩ : ∃ y : Int32, y = a3 + 4 := ⟨_, rfl⟩
          refine v_iinc (v := w257) (j := 3) O dL_law_1025 rfl (by rw [hw258]; exact congrArg _ kc_4) (by decide) (lv' := [(3, .int w257), (0, .ref 87), (1, .ref 0), (2, .ref 48)]) rfl ?_
          refine v_goto O dL_law_1028 (tgt := 18) (by decide) ?_
          exact v_loc [1, 2, 3, 0] rfl (e18 w257 X253 Y254 ((h255.1 g256) w257 hw258))
        · refine v_iconst O dL_law_915 kc_0 ?_
          exact False.elim (h255.2 g256)
      | 24, hj =>
        cases hj
        refine v_aload_n O dL_law_917 rfl 1 rfl ?_
        refine v_aload_n O dL_law_918 rfl 0 rfl ?_
        refine v_iload_n O dL_law_919 rfl 3 rfl ?_
        refine v_iconst O dL_law_920 kc_1 ?_
        refine v_iadd O dL_law_921 ?_
        refine v_sld O r dL_law_922 ((h.2 g1).2.2.2.2.2.2.2.2.2.2.2.2.2.2.2.2.2.2.2.2.2.2.2.2.2.2.1 g2).1 ?_
        refine v_callV (rm' := { frames := 2, cells := 0, slots := 0, locals := 41 }) (As := [.int (xs (a3 + 1).toNatClampNeg)]) (st := []) O dL_law_923 ci_X9_keep ml__law_118 mi_X9_keep sh_0 rfl ⟨rfl, rfl, (by decide), (by decide)⟩ rfl (Nat.le_of_ble_eq_true rfl) rfl (mX9_keep ((h.2 g1).2.2.2.2.2.2.2.2.2.2.2.2.2.2.2.2.2.2.2.2.2.2.2.2.2.2.1 g2).2) (k_I (fun r259 X260 Y261 h262 => ?_))
        refine v_aload_n O dL_law_926 rfl 2 rfl ?_
        refine v_aload_n O dL_law_927 rfl 0 rfl ?_
        refine v_iload_n O dL_law_928 rfl 3 rfl ?_
        refine v_iconst O dL_law_929 kc_1 ?_
        refine v_iadd O dL_law_930 ?_
        refine v_sld O r dL_law_931 ((h.2 g1).2.2.2.2.2.2.2.2.2.2.2.2.2.2.2.2.2.2.2.2.2.2.2.2.2.2.1 g2).1 ?_
        refine v_callV (rm' := { frames := 2, cells := 0, slots := 0, locals := 46 }) (As := [.int (xs (a3 + 1).toNatClampNeg)]) (st := [.int r259]) O dL_law_932 ci_X10_keep ml__law_121 mi_X10_keep sh_48 rfl ⟨rfl, rfl, (by decide), (by decide)⟩ rfl (Nat.le_of_ble_eq_true rfl) rfl (mX10_keep h262) (k_I (fun r263 X264 Y265 h266 => ?_))
        refine v_icmp_eq (tgt := 1025) O dL_law_935 (by decide) (fun g267 => ?_) (fun g267 => ?_)
        · obtain ⟨w268, hw269⟩ : ∃ y : Int32, y = a3 + 4 := ⟨_, rfl⟩
          refine v_iinc (v := w268) (j := 3) O dL_law_1025 rfl (by rw [hw269]; exact congrArg _ kc_4) (by decide) (lv' := [(3, .int w268), (0, .ref 87), (1, .ref 0), (2, .ref 48)]) rfl ?_
          refine v_goto O dL_law_1028 (tgt := 18) (by decide) ?_
          exact v_loc [1, 2, 3, 0] rfl (e18 w268 X264 Y265 ((h266.1 g267) w268 hw269))
        · refine v_iconst O dL_law_938 kc_0 ?_
          exact False.elim (h266.2 g267)
      | 25, hj =>
        cases hj
        refine v_aload_n O dL_law_940 rfl 1 rfl ?_
        refine v_aload_n O dL_law_941 rfl 0 rfl ?_
        refine v_iload_n O dL_law_942 rfl 3 rfl ?_
        refine v_iconst O dL_law_943 kc_1 ?_
        refine v_iadd O dL_law_944 ?_
        refine v_sld O r dL_law_945 ((h.2 g1).2.2.2.2.2.2.2.2.2.2.2.2.2.2.2.2.2.2.2.2.2.2.2.2.2.2.2.1 g2).1 ?_
        refine v_callV (rm' := { frames := 5, cells := 0, slots := 0, locals := 116 }) (As := [.int (xs (a3 + 1).toNatClampNeg)]) (st := []) O dL_law_946 ci_X9_betrayed ml__law_122 mi_X9_betrayed sh_0 rfl ⟨rfl, rfl, (by decide), (by decide)⟩ rfl (Nat.le_of_ble_eq_true rfl) rfl (mX9_betrayed ((h.2 g1).2.2.2.2.2.2.2.2.2.2.2.2.2.2.2.2.2.2.2.2.2.2.2.2.2.2.2.1 g2).2) (k_I (fun r270 X271 Y272 h273 => ?_))
        refine v_aload_n O dL_law_949 rfl 2 rfl ?_
        refine v_aload_n O dL_law_950 rfl 0 rfl ?_
        refine v_iload_n O dL_law_951 rfl 3 rfl ?_
        refine v_iconst O dL_law_952 kc_1 ?_
        refine v_iadd O dL_law_953 ?_
        refine v_sld O r dL_law_954 ((h.2 g1).2.2.2.2.2.2.2.2.2.2.2.2.2.2.2.2.2.2.2.2.2.2.2.2.2.2.2.1 g2).1 ?_
        refine v_callV (rm' := { frames := 5, cells := 0, slots := 0, locals := 116 }) (As := [.int (xs (a3 + 1).toNatClampNeg)]) (st := [.int r270]) O dL_law_955 ci_X10_betrayed ml__law_125 mi_X10_betrayed sh_48 rfl ⟨rfl, rfl, (by decide), (by decide)⟩ rfl (Nat.le_of_ble_eq_true rfl) rfl (mX10_betrayed h273) (k_I (fun r274 X275 Y276 h277 => ?_))
        refine v_icmp_eq (tgt := 1025) O dL_law_958 (by decide) (fun g278 => ?_) (fun g278 => ?_)
        · obtain ⟨w279, hw280⟩ : ∃ y : Int32, y = a3 + 4 := ⟨_, rfl⟩
          refine v_iinc (v := w279) (j := 3) O dL_law_1025 rfl (by rw [hw280]; exact congrArg _ kc_4) (by decide) (lv' := [(3, .int w279), (0, .ref 87), (1, .ref 0), (2, .ref 48)]) rfl ?_
          refine v_goto O dL_law_1028 (tgt := 18) (by decide) ?_
          exact v_loc [1, 2, 3, 0] rfl (e18 w279 X275 Y276 ((h277.1 g278) w279 hw280))
        · refine v_iconst O dL_law_961 kc_0 ?_
          exact False.elim (h277.2 g278)
      | 26, hj =>
        cases hj
        refine v_aload_n O dL_law_963 rfl 1 rfl ?_
        refine v_aload_n O dL_law_964 rfl 0 rfl ?_
        refine v_iload_n O dL_law_965 rfl 3 rfl ?_
        refine v_iconst O dL_law_966 kc_1 ?_
        refine v_iadd O dL_law_967 ?_
        refine v_sld O r dL_law_968 ((h.2 g1).2.2.2.2.2.2.2.2.2.2.2.2.2.2.2.2.2.2.2.2.2.2.2.2.2.2.2.2.1 g2).1 ?_
        refine v_callV (rm' := { frames := 5, cells := 0, slots := 0, locals := 114 }) (As := [.int (xs (a3 + 1).toNatClampNeg)]) (st := []) O dL_law_969 ci_X9_opened ml__law_126 mi_X9_opened sh_0 rfl ⟨rfl, rfl, (by decide), (by decide)⟩ rfl (Nat.le_of_ble_eq_true rfl) rfl (mX9_opened ((h.2 g1).2.2.2.2.2.2.2.2.2.2.2.2.2.2.2.2.2.2.2.2.2.2.2.2.2.2.2.2.1 g2).2) (k_I (fun r281 X282 Y283 h284 => ?_))
        refine v_aload_n O dL_law_972 rfl 2 rfl ?_
        refine v_aload_n O dL_law_973 rfl 0 rfl ?_
        refine v_iload_n O dL_law_974 rfl 3 rfl ?_
        refine v_iconst O dL_law_975 kc_1 ?_
        refine v_iadd O dL_law_976 ?_
        refine v_sld O r dL_law_977 ((h.2 g1).2.2.2.2.2.2.2.2.2.2.2.2.2.2.2.2.2.2.2.2.2.2.2.2.2.2.2.2.1 g2).1 ?_
        refine v_callV (rm' := { frames := 6, cells := 0, slots := 0, locals := 137 }) (As := [.int (xs (a3 + 1).toNatClampNeg)]) (st := [.int r281]) O dL_law_978 ci_X10_opened ml__law_129 mi_X10_opened sh_48 rfl ⟨rfl, rfl, (by decide), (by decide)⟩ rfl (Nat.le_of_ble_eq_true rfl) rfl (mX10_opened h284) (k_I (fun r285 X286 Y287 h288 => ?_))
        refine v_icmp_eq (tgt := 1025) O dL_law_981 (by decide) (fun g289 => ?_) (fun g289 => ?_)
        · obtain ⟨w290, hw291⟩ : ∃ y : Int32, y = a3 + 4 := ⟨_, rfl⟩
          refine v_iinc (v := w290) (j := 3) O dL_law_1025 rfl (by rw [hw291]; exact congrArg _ kc_4) (by decide) (lv' := [(3, .int w290), (0, .ref 87), (1, .ref 0), (2, .ref 48)]) rfl ?_
          refine v_goto O dL_law_1028 (tgt := 18) (by decide) ?_
          exact v_loc [1, 2, 3, 0] rfl (e18 w290 X286 Y287 ((h288.1 g289) w290 hw291))
        · refine v_iconst O dL_law_984 kc_0 ?_
          exact False.elim (h288.2 g289)
      | 27, hj =>
        cases hj
        refine v_aload_n O dL_law_986 rfl 1 rfl ?_
        refine v_callV (rm' := { frames := 5, cells := 0, slots := 0, locals := 114 }) (As := []) (st := []) O dL_law_987 ci_X9_most ml__law_130 mi_X9_most sh_0 rfl ⟨rfl, rfl, (by decide), (by decide)⟩ rfl (Nat.le_of_ble_eq_true rfl) rfl (mX9_most ((h.2 g1).2.2.2.2.2.2.2.2.2.2.2.2.2.2.2.2.2.2.2.2.2.2.2.2.2.2.2.2.2.1 g2)) (k_I (fun r292 X293 Y294 h295 => ?_))
        refine v_aload_n O dL_law_990 rfl 2 rfl ?_
        refine v_callV (rm' := { frames := 6, cells := 0, slots := 0, locals := 137 }) (As := []) (st := [.int r292]) O dL_law_991 ci_X10_most ml__law_133 mi_X10_most sh_48 rfl ⟨rfl, rfl, (by decide), (by decide)⟩ rfl (Nat.le_of_ble_eq_true rfl) rfl (mX10_most h295) (k_I (fun r296 X297 Y298 h299 => ?_))
        refine v_icmp_eq (tgt := 1025) O dL_law_994 (by decide) (fun g300 => ?_) (fun g300 => ?_)
        · obtain ⟨w301, hw302⟩ : ∃ y : Int32, y = a3 + 4 := ⟨_, rfl⟩
          refine v_iinc (v := w301) (j := 3) O dL_law_1025 rfl (by rw [hw302]; exact congrArg _ kc_4) (by decide) (lv' := [(3, .int w301), (0, .ref 87), (1, .ref 0), (2, .ref 48)]) rfl ?_
          refine v_goto O dL_law_1028 (tgt := 18) (by decide) ?_
          exact v_loc [1, 2, 3, 0] rfl (e18 w301 X297 Y298 ((h299.1 g300) w301 hw302))
        · refine v_iconst O dL_law_997 kc_0 ?_
          exact False.elim (h299.2 g300)
      | 28, hj =>
        cases hj
        refine v_aload_n O dL_law_999 rfl 1 rfl ?_
        refine v_callV (rm' := { frames := 5, cells := 0, slots := 0, locals := 115 }) (As := []) (st := []) O dL_law_1000 ci_X9_fewest ml__law_134 mi_X9_fewest sh_0 rfl ⟨rfl, rfl, (by decide), (by decide)⟩ rfl (Nat.le_of_ble_eq_true rfl) rfl (mX9_fewest ((h.2 g1).2.2.2.2.2.2.2.2.2.2.2.2.2.2.2.2.2.2.2.2.2.2.2.2.2.2.2.2.2.2.1 g2)) (k_I (fun r303 X304 Y305 h306 => ?_))
        refine v_aload_n O dL_law_1003 rfl 2 rfl ?_
        refine v_callV (rm' := { frames := 6, cells := 0, slots := 0, locals := 137 }) (As := []) (st := [.int r303]) O dL_law_1004 ci_X10_fewest ml__law_137 mi_X10_fewest sh_48 rfl ⟨rfl, rfl, (by decide), (by decide)⟩ rfl (Nat.le_of_ble_eq_true rfl) rfl (mX10_fewest h306) (k_I (fun r307 X308 Y309 h310 => ?_))
        refine v_icmp_eq (tgt := 1025) O dL_law_1007 (by decide) (fun g311 => ?_) (fun g311 => ?_)
        · obtain ⟨w312, hw313⟩ : ∃ y : Int32, y = a3 + 4 := ⟨_, rfl⟩
          refine v_iinc (v := w312) (j := 3) O dL_law_1025 rfl (by rw [hw313]; exact congrArg _ kc_4) (by decide) (lv' := [(3, .int w312), (0, .ref 87), (1, .ref 0), (2, .ref 48)]) rfl ?_
          refine v_goto O dL_law_1028 (tgt := 18) (by decide) ?_
          exact v_loc [1, 2, 3, 0] rfl (e18 w312 X308 Y309 ((h310.1 g311) w312 hw313))
        · refine v_iconst O dL_law_1010 kc_0 ?_
          exact False.elim (h310.2 g311)
      | 29, hj =>
        cases hj
        refine v_aload_n O dL_law_1012 rfl 1 rfl ?_
        refine v_callV (rm' := { frames := 4, cells := 0, slots := 0, locals := 93 }) (As := []) (st := []) O dL_law_1013 ci_X9_wider ml__law_138 mi_X9_wider sh_0 rfl ⟨rfl, rfl, (by decide), (by decide)⟩ rfl (Nat.le_of_ble_eq_true rfl) rfl (mX9_wider ((h.2 g1).2.2.2.2.2.2.2.2.2.2.2.2.2.2.2.2.2.2.2.2.2.2.2.2.2.2.2.2.2.2.2 g2)) (k_I (fun r314 X315 Y316 h317 => ?_))
        refine v_aload_n O dL_law_1016 rfl 2 rfl ?_
        refine v_callV (rm' := { frames := 5, cells := 0, slots := 0, locals := 116 }) (As := []) (st := [.int r314]) O dL_law_1017 ci_X10_wider ml__law_141 mi_X10_wider sh_48 rfl ⟨rfl, rfl, (by decide), (by decide)⟩ rfl (Nat.le_of_ble_eq_true rfl) rfl (mX10_wider h317) (k_I (fun r318 X319 Y320 h321 => ?_))
        refine v_icmp_eq (tgt := 1025) O dL_law_1020 (by decide) (fun g322 => ?_) (fun g322 => ?_)
        · obtain ⟨w323, hw324⟩ : ∃ y : Int32, y = a3 + 4 := ⟨_, rfl⟩
          refine v_iinc (v := w323) (j := 3) O dL_law_1025 rfl (by rw [hw324]; exact congrArg _ kc_4) (by decide) (lv' := [(3, .int w323), (0, .ref 87), (1, .ref 0), (2, .ref 48)]) rfl ?_
          refine v_goto O dL_law_1028 (tgt := 18) (by decide) ?_
          exact v_loc [1, 2, 3, 0] rfl (e18 w323 X319 Y320 ((h321.1 g322) w323 hw324))
        · refine v_iconst O dL_law_1023 kc_0 ?_
          exact False.elim (h321.2 g322)
      | j + 30, hj => simp at hj
set_option maxHeartbeats 40000000 in
set_option maxRecDepth 100000 in
theorem kL_420 {Γ : Cxt} {L : Nat} {xs : Nat → Int32} (O : Ok Γ R_law code 4 room_1) (r : LawR Γ L xs) {I18 : Int32 → XT → YT → Prop} {I420 : Int32 → Int32 → Int32 → Int32 → XT → YT → Prop} {I447 : Int32 → Int32 → Int32 → Int32 → Int32 → XT → YT → Prop} (e18 : ∀ (a3 : Int32) (X : XT) (Y : YT), I18 a3 X Y → V Γ 18 [(0, .ref 87), (1, .ref 0), (2, .ref 48), (3, .int a3)] [] X Y) (e420 : ∀ (a3 : Int32) (t0 : Int32) (t1 : Int32) (t2 : Int32) (X : XT) (Y : YT), I420 a3 t0 t1 t2 X Y → V Γ 420 [(0, .ref 87), (1, .ref 0), (2, .ref 48), (3, .int a3)] [.int t0, .int t1, .int t2, .ref 0] X Y) (e447 : ∀ (a3 : Int32) (t0 : Int32) (t1 : Int32) (t2 : Int32) (t4 : Int32) (X : XT) (Y : YT), I447 a3 t0 t1 t2 t4 X Y → V Γ 447 [(0, .ref 87), (1, .ref 0), (2, .ref 48), (3, .int a3)] [.int t0, .int t1, .int t2, .ref 48, .int t4] X Y) {a3 : Int32} {t0 : Int32} {t1 : Int32} {t2 : Int32} {X : XT} {Y : YT} (h : BL_420 L xs I18 I420 I447 a3 t0 t1 t2 X Y) : V Γ 420 [(0, .ref 87), (1, .ref 0), (2, .ref 48), (3, .int a3)] [.int t0, .int t1, .int t2, .ref 0] X Y := by
  refine v_callV (rm' := { frames := 2, cells := 0, slots := 0, locals := 45 }) (As := [.int t2, .int t1, .int t0]) (st := []) O dL_law_420 ci_X9_never ml__law_43 mi_X9_never sh_0 rfl ⟨rfl, rfl, (by decide), (by decide)⟩ rfl (Nat.le_of_ble_eq_true rfl) rfl (mX9_never h) (k_I (fun r1 X2 Y3 h4 => ?_))
  refine v_aload_n O dL_law_423 rfl 2 rfl ?_
  refine v_aload_n O dL_law_424 rfl 0 rfl ?_
  refine v_iload_n O dL_law_425 rfl 3 rfl ?_
  refine v_iconst O dL_law_426 kc_1 ?_
  refine v_iadd O dL_law_427 ?_
  refine v_sld O r dL_law_428 h4.1 ?_
  refine v_aload_n O dL_law_429 rfl 0 rfl ?_
  refine v_iload_n O dL_law_430 rfl 3 rfl ?_
  refine v_iconst O dL_law_431 kc_2 ?_
  refine v_iadd O dL_law_432 ?_
  refine v_sld O r dL_law_433 h4.2.1 ?_
  refine v_aload_n O dL_law_434 rfl 0 rfl ?_
  refine v_iload_n O dL_law_435 rfl 3 rfl ?_
  refine v_iconst O dL_law_436 kc_3 ?_
  refine v_iadd O dL_law_437 ?_
  refine v_sld O r dL_law_438 h4.2.2.1 ?_
  refine v_if_eq (tgt := 446) O dL_law_439 (by decide) (fun g5 => ?_) (fun g5 => ?_)
  · refine v_iconst O dL_law_446 kc_0 ?_
    exact v_loc [0, 1, 2, 3] rfl (e447 a3 0 (xs (a3 + 2).toNatClampNeg) (xs (a3 + 1).toNatClampNeg) r1 X2 Y3 (h4.2.2.2.1 g5))
  · refine v_iconst O dL_law_442 kc_1 ?_
    refine v_goto O dL_law_443 (tgt := 447) (by decide) ?_
    exact v_loc [0, 1, 2, 3] rfl (e447 a3 1 (xs (a3 + 2).toNatClampNeg) (xs (a3 + 1).toNatClampNeg) r1 X2 Y3 (h4.2.2.2.2 g5))
set_option maxHeartbeats 40000000 in
set_option maxRecDepth 100000 in
theorem kL_447 {Γ : Cxt} {L : Nat} {xs : Nat → Int32} (O : Ok Γ R_law code 4 room_1) (r : LawR Γ L xs) {I18 : Int32 → XT → YT → Prop} {I420 : Int32 → Int32 → Int32 → Int32 → XT → YT → Prop} {I447 : Int32 → Int32 → Int32 → Int32 → Int32 → XT → YT → Prop} (e18 : ∀ (a3 : Int32) (X : XT) (Y : YT), I18 a3 X Y → V Γ 18 [(0, .ref 87), (1, .ref 0), (2, .ref 48), (3, .int a3)] [] X Y) (e420 : ∀ (a3 : Int32) (t0 : Int32) (t1 : Int32) (t2 : Int32) (X : XT) (Y : YT), I420 a3 t0 t1 t2 X Y → V Γ 420 [(0, .ref 87), (1, .ref 0), (2, .ref 48), (3, .int a3)] [.int t0, .int t1, .int t2, .ref 0] X Y) (e447 : ∀ (a3 : Int32) (t0 : Int32) (t1 : Int32) (t2 : Int32) (t4 : Int32) (X : XT) (Y : YT), I447 a3 t0 t1 t2 t4 X Y → V Γ 447 [(0, .ref 87), (1, .ref 0), (2, .ref 48), (3, .int a3)] [.int t0, .int t1, .int t2, .ref 48, .int t4] X Y) {a3 : Int32} {t0 : Int32} {t1 : Int32} {t2 : Int32} {t4 : Int32} {X : XT} {Y : YT} (h : BL_447 L xs I18 I420 I447 a3 t0 t1 t2 t4 X Y) : V Γ 447 [(0, .ref 87), (1, .ref 0), (2, .ref 48), (3, .int a3)] [.int t0, .int t1, .int t2, .ref 48, .int t4] X Y := by
  refine v_callV (rm' := { frames := 2, cells := 0, slots := 0, locals := 46 }) (As := [.int t2, .int t1, .int t0]) (st := [.int t4]) O dL_law_447 ci_X10_never ml__law_47 mi_X10_never sh_48 rfl ⟨rfl, rfl, (by decide), (by decide)⟩ rfl (Nat.le_of_ble_eq_true rfl) rfl (mX10_never h) (k_I (fun r1 X2 Y3 h4 => ?_))
  refine v_icmp_eq (tgt := 1025) O dL_law_450 (by decide) (fun g5 => ?_) (fun g5 => ?_)
  · obtain ⟨w6, hw7⟩ : ∃ y : Int32, y = a3 + 4 := ⟨_, rfl⟩
    refine v_iinc (v := w6) (j := 3) O dL_law_1025 rfl (by rw [hw7]; exact congrArg _ kc_4) (by decide) (lv' := [(3, .int w6), (0, .ref 87), (1, .ref 0), (2, .ref 48)]) rfl ?_
    refine v_goto O dL_law_1028 (tgt := 18) (by decide) ?_
    exact v_loc [1, 2, 3, 0] rfl (e18 w6 X2 Y3 ((h4.1 g5) w6 hw7))
  · refine v_iconst O dL_law_453 kc_0 ?_
    exact False.elim (h4.2 g5)
set_option maxRecDepth 100000 in
theorem kL {Γ : Cxt} {L : Nat} {xs : Nat → Int32} (O : Ok Γ R_law code 4 room_1) (r : LawR Γ L xs) {X : XT} {Y : YT} (h : PL L xs X Y) : V Γ 18 [(0, .ref 87), (1, .ref 0), (2, .ref 48), (3, .int 0)] [] X Y :=
  h (fun a3 X Y => V Γ 18 [(0, .ref 87), (1, .ref 0), (2, .ref 48), (3, .int a3)] [] X Y) (fun a3 t0 t1 t2 X Y => V Γ 420 [(0, .ref 87), (1, .ref 0), (2, .ref 48), (3, .int a3)] [.int t0, .int t1, .int t2, .ref 0] X Y) (fun a3 t0 t1 t2 t4 X Y => V Γ 447 [(0, .ref 87), (1, .ref 0), (2, .ref 48), (3, .int a3)] [.int t0, .int t1, .int t2, .ref 48, .int t4] X Y) (fun _ _ _ g => kL_18 O r (fun _ _ _ g => g) (fun _ _ _ _ _ _ g => g) (fun _ _ _ _ _ _ _ g => g) g) (fun _ _ _ _ _ _ g => kL_420 O r (fun _ _ _ g => g) (fun _ _ _ _ _ _ g => g) (fun _ _ _ _ _ _ _ g => g) g) (fun _ _ _ _ _ _ _ g => kL_447 O r (fun _ _ _ g => g) (fun _ _ _ _ _ _ g => g) (fun _ _ _ _ _ _ _ g => g) g)
