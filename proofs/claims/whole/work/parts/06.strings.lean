/-! STRING CONSTANTS: cells 80, 81, 82 are "day", "fount", "office", 83 .. 85 their bytes, 86 a static of the JDK's; length() and charAt() -/
theorem fl38 : Cond.fieldLink RJ0 38 "java/lang/String" "COMPACT_STRINGS" "Z" ∈ wl := in_wl (List.mem_append_right _ (List.mem_of_getElem? (i := 552) (by decide +kernel))) rfl
theorem fl9 : Cond.fieldLink RJ0 9 "java/lang/String" "value" "[B" ∈ wl := in_wl (List.mem_append_right _ (List.mem_of_getElem? (i := 1357) (by decide +kernel))) rfl
theorem fl15 : Cond.fieldLink RJ0 15 "java/lang/String" "coder" "B" ∈ wl := in_wl (List.mem_append_right _ (List.mem_of_getElem? (i := 1358) (by decide +kernel))) rfl
theorem fl1053 : Cond.fieldLink RJ0 1053 "jdk/internal/util/Preconditions" "SIOOBE_FORMATTER" "Ljava/util/function/BiFunction;" ∈ wl := in_wl (List.mem_append_right _ (List.mem_of_getElem? (i := 568) (by decide +kernel))) rfl
section STR
variable {Γ : Cxt} {own : String} {cc : ByteArray} {n : Nat} {rm : Room} {pc : Nat} {lv : List (Nat × Value)} {st stk : List Value} {X : XT} {Y : YT}
theorem v_gets1 (O : Ok Γ RJ0 cc n rm) (d : decode cc pc = .ok (.getstatic 38, 3)) (k : V Γ (pc + 3) lv (.int 1 :: st) X Y) : V Γ pc lv st X Y := by
  obtain ⟨⟨p, l, e, R, s, m⟩, ⟨args, below, meth, c⟩, ⟨D, cI, cL, ad⟩, ⟨nL, k0, n0⟩, Qf⟩ := Γ
  exact fun H locs ls hP hS hl => va_gets O.1.1 O.1.2.1 O.2.2.1.2.2.1.2.1 hS O.1.2.2.2.1 (O.1.2.2.2.2 _ fl38) (fun _ h => h) d (k H locs ls hP hS hl)
theorem v_getsF (O : Ok Γ RJ0 cc n rm) (d : decode cc pc = .ok (.getstatic 1053, 3)) (k : ∀ v : Value, v.category = 1 → V Γ (pc + 3) lv (v :: st) X Y) : V Γ pc lv st X Y := by
  obtain ⟨⟨p, l, e, R, s, m⟩, ⟨args, below, meth, c⟩, ⟨D, cI, cL, ad⟩, ⟨nL, k0, n0⟩, Qf⟩ := Γ
  intro H locs ls hP hS hl
  rcases O.2.2.1.2.2.1.2.2.2.2.2 with h | h
  · exact va_gets O.1.1 O.1.2.1 h hS O.1.2.2.2.1 (O.1.2.2.2.2 _ fl1053) (fun _ h => h) d (k .null rfl H locs ls hP hS hl)
  · exact va_gets O.1.1 O.1.2.1 h hS O.1.2.2.2.1 (O.1.2.2.2.2 _ fl1053) (fun _ h => h) d (k (.ref (shp.length + 6)) rfl H locs ls hP hS hl)
theorem v_strV {i : Nat} (hi : i < 3) (O : Ok Γ RJ0 cc n rm) (d : decode cc pc = .ok (.getfield 9, 3)) (k : V Γ (pc + 3) lv (.ref (83 + i) :: st) X Y) : V Γ pc lv (.ref (80 + i) :: st) X Y := by
  obtain ⟨⟨p, l, e, R, s, m⟩, ⟨args, below, meth, c⟩, ⟨D, cI, cL, ad⟩, ⟨nL, k0, n0⟩, Qf⟩ := Γ
  exact fun H locs ls hP hS hl => vk_getf O.1.1 O.1.2.1 (O.2.2.1.2.2.1.1.1 i hi).2.2.1 hS O.1.2.2.2.1 (O.1.2.2.2.2 _ fl9) (fun _ h => h) d (k H locs ls hP hS hl)
theorem v_strC {i : Nat} (hi : i < 3) (O : Ok Γ RJ0 cc n rm) (d : decode cc pc = .ok (.getfield 15, 3)) (k : V Γ (pc + 3) lv (.int 0 :: st) X Y) : V Γ pc lv (.ref (80 + i) :: st) X Y := by
  obtain ⟨⟨p, l, e, R, s, m⟩, ⟨args, below, meth, c⟩, ⟨D, cI, cL, ad⟩, ⟨nL, k0, n0⟩, Qf⟩ := Γ
  exact fun H locs ls hP hS hl => vk_getf O.1.1 O.1.2.1 (O.2.2.1.2.2.1.1.1 i hi).2.1 hS O.1.2.2.2.1 (O.1.2.2.2.2 _ fl15) (fun _ h => h) d (k H locs ls hP hS hl)
theorem v_strL {i : Nat} (hi : i < 3) (O : Ok Γ own cc n rm) (d : decode cc pc = .ok (.arraylength, 1)) (k : V Γ (pc + 1) lv (.int (nI (slen.getD i 0)) :: st) X Y) : V Γ pc lv (.ref (83 + i) :: st) X Y := by
  obtain ⟨⟨p, l, e, R, s, m⟩, ⟨args, below, meth, c⟩, ⟨D, cI, cL, ad⟩, ⟨nL, k0, n0⟩, Qf⟩ := Γ
  exact fun H locs ls hP hS hl => va_tlen O.1.1 O.1.2.1 (O.2.2.1.2.2.1.1.1 i hi).2.2.2 hS rfl d (k H locs ls hP hS hl)
theorem v_strB {i : Nat} {j : Int32} (hi : i < 3) (hj : vp_in j (slen.getD i 0)) (O : Ok Γ own cc n rm) (d : decode cc pc = .ok (.baload, 1)) (k : V Γ (pc + 1) lv (.int ((sbyt.getD i []).getD j.toNatClampNeg 0) :: st) X Y) : V Γ pc lv (.int j :: .ref (83 + i) :: st) X Y := by
  obtain ⟨⟨p, l, e, R, s, m⟩, ⟨args, below, meth, c⟩, ⟨D, cI, cL, ad⟩, ⟨nL, k0, n0⟩, Qf⟩ := Γ
  exact fun H locs ls hP hS hl => va_tb O.1.1 O.1.2.1 (O.2.2.1.2.2.1.1.1 i hi).2.2.2 hS hj rfl d (k H locs ls hP hS hl)
theorem v_ldcS0 (O : Ok Γ RX2 cc n rm) (d : decode cc pc = .ok (.ldc 48, 2)) (k : V Γ (pc + 2) lv (.ref 80 :: st) X Y) : V Γ pc lv st X Y := by
  obtain ⟨⟨p, l, e, R, s, m⟩, ⟨args, below, meth, c⟩, ⟨D, cI, cL, ad⟩, ⟨nL, k0, n0⟩, Qf⟩ := Γ
  exact fun H locs ls hP hS hl => va_ldcS O.1.1 O.1.2.1 O.1.2.2.2.1 O.2.2.1.2.2.1.2.2.1 d (k H locs ls hP hS hl)
theorem v_ldcS1 (O : Ok Γ RX2 cc n rm) (d : decode cc pc = .ok (.ldc 60, 2)) (k : V Γ (pc + 2) lv (.ref 81 :: st) X Y) : V Γ pc lv st X Y := by
  obtain ⟨⟨p, l, e, R, s, m⟩, ⟨args, below, meth, c⟩, ⟨D, cI, cL, ad⟩, ⟨nL, k0, n0⟩, Qf⟩ := Γ
  exact fun H locs ls hP hS hl => va_ldcS O.1.1 O.1.2.1 O.1.2.2.2.1 O.2.2.1.2.2.1.2.2.2.1 d (k H locs ls hP hS hl)
theorem v_ldcS2 (O : Ok Γ RX2 cc n rm) (d : decode cc pc = .ok (.ldc 109, 2)) (k : V Γ (pc + 2) lv (.ref 82 :: st) X Y) : V Γ pc lv st X Y := by
  obtain ⟨⟨p, l, e, R, s, m⟩, ⟨args, below, meth, c⟩, ⟨D, cI, cL, ad⟩, ⟨nL, k0, n0⟩, Qf⟩ := Γ
  exact fun H locs ls hP hS hl => va_ldcS O.1.1 O.1.2.1 O.1.2.2.2.1 O.2.2.1.2.2.1.2.2.2.2.1 d (k H locs ls hP hS hl)
/-- a call on a String constant -/
theorem v_callT {idx i na maxL : Nat} {y : MethodName} {bytes : ByteArray} {ret : Option FieldType} {rm' : Room} {As : List Value} {Q' : PT} (O : Ok Γ own cc n rm) (d : decode cc pc = .ok (.invokevirtual idx, 3)) (hc : CIx y bytes maxL ret na) (hl : Cond.methodLink own idx y ∈ wl) (hi : Cond.instanceMethod y ∈ wl ∧ Cond.selects y.cls y y ∈ wl) (hy : y.cls = "java/lang/String") (h3 : i < 3) (hR : RmL rm rm' maxL) (hn : As.length = na) (hW : (st.map (fun v => v.category)).sum ≤ 8) (hs : stk = As.reverse ++ .ref (80 + i) :: st)
    (hM : MT Γ y (.code y bytes maxL ret :: wl) rm' (.ref (80 + i) :: As) X Y Q') (k : ∀ r X' Y', Q' r X' Y' → V Γ (pc + 3) lv (r.toList ++ st) X' Y') : V Γ pc lv stk X Y := by
  obtain ⟨⟨p, l, e, R, s, m⟩, ⟨args, below, meth, c⟩, ⟨D, cI, cL, ad⟩, ⟨nL, k0, n0⟩, Qf⟩ := Γ
  obtain ⟨O1, O2, O3, O4, O5, O6, O7⟩ := O
  have O5 : R = rm := O5
  subst O5
  subst hs
  intro H locs ls hP hS hlv
  have hts := O1.2.2.2.2
  have hrv : ∃ cell : Cell, H[ad (80 + i)]? = some cell ∧ cell.vm.isStatics = false ∧ s.vm.findClass y.cls = some cell.cls := by
    rw [hy]
    exact vk_recv (i := i) (adK := fun i => ad (shp.length + i)) O3.2.2.1.1 h3 hS
  have cw : CallW R s args own y.cls idx y bytes maxL ret (.code y bytes maxL ret :: wl) rm' 0 0 na := ⟨callB_of na hts (goodIn_wl hc.1) rfl hR.1 hR.2.1 (hts _ hc.2.1) (hts _ hl) hc.2.2 ⟨hR.2.2.1, hR.2.2.2⟩, hts _ hi.1, hts _ hi.2⟩
  have hru : va_Run p l e R s m args below meth c H locs k0 n0 0 0 (F0 m pc ls ((As.reverse ++ .ref (80 + i) :: st).map (tv ad))) (st.map (tv ad)) (Qm D cI cL ad Q' (Value.ref (ad (80 + i)) :: As.map (tv ad)).toArray) (A0 ad) := va_runV (As := As.map (tv ad)) (rest := st.map (tv ad)) (g := F0 m pc ls ((As.reverse ++ .ref (80 + i) :: st).map (tv ad))) (b := ad (80 + i)) O1 hM cw ⟨pc_blind, hrv, pre_of hP hS O3⟩ rfl (by rw [List.length_map]; exact hn) hlv.1 (by simp [tv]) (lv_room (by rw [List.map_map]; simpa [Function.comp_def, tv_cat] using hW)) d ⟨O6, O7⟩
  exact v_behind hru hS hlv k
end STR
theorem ci_J0_coder : CIx yJ0_coder_7d493 cJ0_coder_7d493 1 (some .byte) 0 := ⟨in_wl (List.mem_append_right _ (List.mem_of_getElem? (i := 551) (by decide +kernel))) rfl, in_wl (List.mem_append_right _ (List.mem_of_getElem? (i := 14) (by decide +kernel))) rfl, by decide +kernel⟩
theorem ci_J0_isLatin1 : CIx yJ0_isLatin1_aae02 cJ0_isLatin1_aae02 1 (some .boolean) 0 := ⟨in_wl (List.mem_append_right _ (List.mem_of_getElem? (i := 561) (by decide +kernel))) rfl, in_wl (List.mem_append_right _ (List.mem_of_getElem? (i := 14) (by decide +kernel))) rfl, by decide +kernel⟩
theorem ci_J1_charAt : CIx yJ1_charAt_3b067 cJ1_charAt_3b067 2 (some .char) 2 := ⟨in_wl (List.mem_append_right _ (List.mem_of_getElem? (i := 564) (by decide +kernel))) rfl, in_wl (List.mem_append_right _ (List.mem_of_getElem? (i := 15) (by decide +kernel))) rfl, by decide +kernel⟩
theorem ci_J0_checkIndex : CIx yJ0_checkIndex_df160 cJ0_checkIndex_df160 2 none 2 := ⟨in_wl (List.mem_append_right _ (List.mem_of_getElem? (i := 567) (by decide +kernel))) rfl, in_wl (List.mem_append_right _ (List.mem_of_getElem? (i := 14) (by decide +kernel))) rfl, by decide +kernel⟩
theorem ci_J3_checkIndex : CIx yJ3_checkIndex_8e157 cJ3_checkIndex_8e157 3 (some .int) 3 := ⟨in_wl (List.mem_append_right _ (List.mem_of_getElem? (i := 572) (by decide +kernel))) rfl, in_wl (List.mem_append_right _ (List.mem_of_getElem? (i := 16) (by decide +kernel))) rfl, by decide +kernel⟩
theorem ml_J0_335 : Cond.methodLink RJ0 335 yJ0_coder_7d493 ∈ wl := in_wl (List.mem_append_right _ (List.mem_of_getElem? (i := 548) (by decide +kernel))) rfl
theorem mi_J0_coder : Cond.instanceMethod yJ0_coder_7d493 ∈ wl ∧ Cond.selects yJ0_coder_7d493.cls yJ0_coder_7d493 yJ0_coder_7d493 ∈ wl := ⟨in_wl (List.mem_append_right _ (List.mem_of_getElem? (i := 549) (by decide +kernel))) rfl, in_wl (List.mem_append_right _ (List.mem_of_getElem? (i := 550) (by decide +kernel))) rfl⟩
theorem ml_J0_492 : Cond.methodLink RJ0 492 yJ0_isLatin1_aae02 ∈ wl := in_wl (List.mem_append_right _ (List.mem_of_getElem? (i := 558) (by decide +kernel))) rfl
theorem mi_J0_isLatin1 : Cond.instanceMethod yJ0_isLatin1_aae02 ∈ wl ∧ Cond.selects yJ0_isLatin1_aae02.cls yJ0_isLatin1_aae02 yJ0_isLatin1_aae02 ∈ wl := ⟨in_wl (List.mem_append_right _ (List.mem_of_getElem? (i := 559) (by decide +kernel))) rfl, in_wl (List.mem_append_right _ (List.mem_of_getElem? (i := 560) (by decide +kernel))) rfl⟩
theorem ml_J0_495 : Cond.methodLink RJ0 495 yJ1_charAt_3b067 ∈ wl := in_wl (List.mem_append_right _ (List.mem_of_getElem? (i := 562) (by decide +kernel))) rfl
theorem ms_J1_charAt : Cond.static yJ1_charAt_3b067 ∈ wl := in_wl (List.mem_append_right _ (List.mem_of_getElem? (i := 563) (by decide +kernel))) rfl
theorem ml_J1_9 : Cond.methodLink RJ1 9 yJ0_checkIndex_df160 ∈ wl := in_wl (List.mem_append_right _ (List.mem_of_getElem? (i := 565) (by decide +kernel))) rfl
theorem ms_J0_checkIndex : Cond.static yJ0_checkIndex_df160 ∈ wl := in_wl (List.mem_append_right _ (List.mem_of_getElem? (i := 566) (by decide +kernel))) rfl
theorem ml_J0_1059 : Cond.methodLink RJ0 1059 yJ3_checkIndex_8e157 ∈ wl := in_wl (List.mem_append_right _ (List.mem_of_getElem? (i := 570) (by decide +kernel))) rfl
theorem ms_J3_checkIndex : Cond.static yJ3_checkIndex_8e157 ∈ wl := in_wl (List.mem_append_right _ (List.mem_of_getElem? (i := 571) (by decide +kernel))) rfl
theorem dJ0_length_8abf5_0 : decode cJ0_length_8abf5 0 = .ok (.aload_n 0, 1) := by decide +kernel
theorem dJ0_length_8abf5_1 : decode cJ0_length_8abf5 1 = .ok (.getfield 9, 3) := by decide +kernel
theorem dJ0_length_8abf5_4 : decode cJ0_length_8abf5 4 = .ok (.arraylength, 1) := by decide +kernel
theorem dJ0_length_8abf5_5 : decode cJ0_length_8abf5 5 = .ok (.aload_n 0, 1) := by decide +kernel
theorem dJ0_length_8abf5_6 : decode cJ0_length_8abf5 6 = .ok (.invokevirtual 335, 3) := by decide +kernel
theorem dJ0_length_8abf5_9 : decode cJ0_length_8abf5 9 = .ok (.ishr, 1) := by decide +kernel
theorem dJ0_length_8abf5_10 : decode cJ0_length_8abf5 10 = .ok (.ireturn, 1) := by decide +kernel
theorem dJ0_charAt_5068e_0 : decode cJ0_charAt_5068e 0 = .ok (.aload_n 0, 1) := by decide +kernel
theorem dJ0_charAt_5068e_1 : decode cJ0_charAt_5068e 1 = .ok (.invokevirtual 492, 3) := by decide +kernel
theorem dJ0_charAt_5068e_4 : decode cJ0_charAt_5068e 4 = .ok (.ifCond .eq 12, 3) := by decide +kernel
theorem dJ0_charAt_5068e_7 : decode cJ0_charAt_5068e 7 = .ok (.aload_n 0, 1) := by decide +kernel
theorem dJ0_charAt_5068e_8 : decode cJ0_charAt_5068e 8 = .ok (.getfield 9, 3) := by decide +kernel
theorem dJ0_charAt_5068e_11 : decode cJ0_charAt_5068e 11 = .ok (.iload_n 1, 1) := by decide +kernel
theorem dJ0_charAt_5068e_12 : decode cJ0_charAt_5068e 12 = .ok (.invokestatic 495, 3) := by decide +kernel
theorem dJ0_charAt_5068e_15 : decode cJ0_charAt_5068e 15 = .ok (.ireturn, 1) := by decide +kernel
theorem dJ0_charAt_5068e_16 : decode cJ0_charAt_5068e 16 = .ok (.aload_n 0, 1) := by decide +kernel
theorem dJ0_charAt_5068e_17 : decode cJ0_charAt_5068e 17 = .ok (.getfield 9, 3) := by decide +kernel
theorem dJ0_charAt_5068e_20 : decode cJ0_charAt_5068e 20 = .ok (.iload_n 1, 1) := by decide +kernel
theorem dJ0_charAt_5068e_21 : decode cJ0_charAt_5068e 21 = .ok (.invokestatic 498, 3) := by decide +kernel
theorem dJ0_charAt_5068e_24 : decode cJ0_charAt_5068e 24 = .ok (.ireturn, 1) := by decide +kernel
theorem dJ0_coder_7d493_0 : decode cJ0_coder_7d493 0 = .ok (.getstatic 38, 3) := by decide +kernel
theorem dJ0_coder_7d493_3 : decode cJ0_coder_7d493 3 = .ok (.ifCond .eq 10, 3) := by decide +kernel
theorem dJ0_coder_7d493_6 : decode cJ0_coder_7d493 6 = .ok (.aload_n 0, 1) := by decide +kernel
theorem dJ0_coder_7d493_7 : decode cJ0_coder_7d493 7 = .ok (.getfield 15, 3) := by decide +kernel
theorem dJ0_coder_7d493_10 : decode cJ0_coder_7d493 10 = .ok (.goto 4, 3) := by decide +kernel
theorem dJ0_coder_7d493_13 : decode cJ0_coder_7d493 13 = .ok (.iconst 1, 1) := by decide +kernel
theorem dJ0_coder_7d493_14 : decode cJ0_coder_7d493 14 = .ok (.ireturn, 1) := by decide +kernel
theorem dJ0_isLatin1_aae02_0 : decode cJ0_isLatin1_aae02 0 = .ok (.getstatic 38, 3) := by decide +kernel
theorem dJ0_isLatin1_aae02_3 : decode cJ0_isLatin1_aae02 3 = .ok (.ifCond .eq 14, 3) := by decide +kernel
theorem dJ0_isLatin1_aae02_6 : decode cJ0_isLatin1_aae02 6 = .ok (.aload_n 0, 1) := by decide +kernel
theorem dJ0_isLatin1_aae02_7 : decode cJ0_isLatin1_aae02 7 = .ok (.getfield 15, 3) := by decide +kernel
theorem dJ0_isLatin1_aae02_10 : decode cJ0_isLatin1_aae02 10 = .ok (.ifCond .ne 7, 3) := by decide +kernel
theorem dJ0_isLatin1_aae02_13 : decode cJ0_isLatin1_aae02 13 = .ok (.iconst 1, 1) := by decide +kernel
theorem dJ0_isLatin1_aae02_14 : decode cJ0_isLatin1_aae02 14 = .ok (.goto 4, 3) := by decide +kernel
theorem dJ0_isLatin1_aae02_17 : decode cJ0_isLatin1_aae02 17 = .ok (.iconst 0, 1) := by decide +kernel
theorem dJ0_isLatin1_aae02_18 : decode cJ0_isLatin1_aae02 18 = .ok (.ireturn, 1) := by decide +kernel
theorem dJ0_checkIndex_df160_0 : decode cJ0_checkIndex_df160 0 = .ok (.iload_n 0, 1) := by decide +kernel
theorem dJ0_checkIndex_df160_1 : decode cJ0_checkIndex_df160 1 = .ok (.iload_n 1, 1) := by decide +kernel
theorem dJ0_checkIndex_df160_2 : decode cJ0_checkIndex_df160 2 = .ok (.getstatic 1053, 3) := by decide +kernel
theorem dJ0_checkIndex_df160_5 : decode cJ0_checkIndex_df160 5 = .ok (.invokestatic 1059, 3) := by decide +kernel
theorem dJ0_checkIndex_df160_8 : decode cJ0_checkIndex_df160 8 = .ok (.pop, 1) := by decide +kernel
theorem dJ0_checkIndex_df160_9 : decode cJ0_checkIndex_df160 9 = .ok (.return_, 1) := by decide +kernel
theorem dJ1_charAt_3b067_0 : decode cJ1_charAt_3b067 0 = .ok (.iload_n 1, 1) := by decide +kernel
theorem dJ1_charAt_3b067_1 : decode cJ1_charAt_3b067 1 = .ok (.aload_n 0, 1) := by decide +kernel
theorem dJ1_charAt_3b067_2 : decode cJ1_charAt_3b067 2 = .ok (.arraylength, 1) := by decide +kernel
theorem dJ1_charAt_3b067_3 : decode cJ1_charAt_3b067 3 = .ok (.invokestatic 9, 3) := by decide +kernel
theorem dJ1_charAt_3b067_6 : decode cJ1_charAt_3b067 6 = .ok (.aload_n 0, 1) := by decide +kernel
theorem dJ1_charAt_3b067_7 : decode cJ1_charAt_3b067 7 = .ok (.iload_n 1, 1) := by decide +kernel
theorem dJ1_charAt_3b067_8 : decode cJ1_charAt_3b067 8 = .ok (.baload, 1) := by decide +kernel
theorem dJ1_charAt_3b067_9 : decode cJ1_charAt_3b067 9 = .ok (.sipush 255, 3) := by decide +kernel
theorem dJ1_charAt_3b067_12 : decode cJ1_charAt_3b067 12 = .ok (.iand, 1) := by decide +kernel
theorem dJ1_charAt_3b067_13 : decode cJ1_charAt_3b067 13 = .ok (.i2c, 1) := by decide +kernel
theorem dJ1_charAt_3b067_14 : decode cJ1_charAt_3b067 14 = .ok (.ireturn, 1) := by decide +kernel
theorem dJ3_checkIndex_8e157_0 : decode cJ3_checkIndex_8e157 0 = .ok (.iload_n 0, 1) := by decide +kernel
theorem dJ3_checkIndex_8e157_1 : decode cJ3_checkIndex_8e157 1 = .ok (.ifCond .lt 8, 3) := by decide +kernel
theorem dJ3_checkIndex_8e157_4 : decode cJ3_checkIndex_8e157 4 = .ok (.iload_n 0, 1) := by decide +kernel
theorem dJ3_checkIndex_8e157_5 : decode cJ3_checkIndex_8e157 5 = .ok (.iload_n 1, 1) := by decide +kernel
theorem dJ3_checkIndex_8e157_6 : decode cJ3_checkIndex_8e157 6 = .ok (.if_icmp .lt 10, 3) := by decide +kernel
theorem dJ3_checkIndex_8e157_9 : decode cJ3_checkIndex_8e157 9 = .ok (.aload_n 2, 1) := by decide +kernel
theorem dJ3_checkIndex_8e157_10 : decode cJ3_checkIndex_8e157 10 = .ok (.iload_n 0, 1) := by decide +kernel
theorem dJ3_checkIndex_8e157_11 : decode cJ3_checkIndex_8e157 11 = .ok (.iload_n 1, 1) := by decide +kernel
theorem dJ3_checkIndex_8e157_12 : decode cJ3_checkIndex_8e157 12 = .ok (.invokestatic 95, 3) := by decide +kernel
theorem dJ3_checkIndex_8e157_15 : decode cJ3_checkIndex_8e157 15 = .ok (.athrow, 1) := by decide +kernel
theorem dJ3_checkIndex_8e157_16 : decode cJ3_checkIndex_8e157 16 = .ok (.iload_n 0, 1) := by decide +kernel
theorem dJ3_checkIndex_8e157_17 : decode cJ3_checkIndex_8e157 17 = .ok (.ireturn, 1) := by decide +kernel
theorem mJ3_checkIndex {Γ : Cxt} {a b : Int32} {v : Value} (hv : v.category = 1) {X : XT} {Y : YT} {Q : Int32 → XT → YT → Prop} (h : ¬ a < 0 ∧ a < b ∧ Q a X Y) : MT Γ yJ3_checkIndex_8e157 (.code yJ3_checkIndex_8e157 cJ3_checkIndex_8e157 3 (some .int) :: wl) { frames := 0, cells := 0, slots := 0, locals := 0 } [.int a, .int b, v] X Y (qI Q) := by
  have hlen : (lg_sl [.int a, .int b, v]).length ≤ 3 := by
    have h0 : ∀ x : Int32, (Value.int x).category = 1 := fun _ => rfl
    simp [lg_sl, hv, h0]
  refine mt_of (by decide) hlen (fun Γ _ O r => ?_)
  show V Γ 0 [(0, .int a), (1, .int b), (2, v)] [] X Y
  refine v_iload_n O dJ3_checkIndex_8e157_0 rfl 0 rfl ?_
  refine v_if_lt (tgt := 9) O dJ3_checkIndex_8e157_1 (by decide) (fun g => absurd g h.1) (fun g => ?_)
  refine v_iload_n O dJ3_checkIndex_8e157_4 rfl 0 rfl ?_
  refine v_iload_n O dJ3_checkIndex_8e157_5 rfl 1 rfl ?_
  refine v_icmp_lt (tgt := 16) O dJ3_checkIndex_8e157_6 (by decide) (fun g => ?_) (fun g => absurd h.2.1 g)
  refine v_iload_n O dJ3_checkIndex_8e157_16 rfl 0 rfl ?_
  exact v_iret O r dJ3_checkIndex_8e157_17 ⟨_, rfl, h.2.2⟩
theorem mJ0_checkIndex {Γ : Cxt} {a b : Int32} {X : XT} {Y : YT} {Q : XT → YT → Prop} (h : ¬ a < 0 ∧ a < b ∧ Q X Y) : MT Γ yJ0_checkIndex_df160 (.code yJ0_checkIndex_df160 cJ0_checkIndex_df160 2 none :: wl) { frames := 1, cells := 0, slots := 0, locals := 22 } [.int a, .int b] X Y (qV Q) := by
  refine mt_of (by decide) (Nat.le_of_ble_eq_true rfl) (fun Γ _ O r => ?_)
  show V Γ 0 [(0, .int a), (1, .int b)] [] X Y
  refine v_iload_n O dJ0_checkIndex_df160_0 rfl 0 rfl ?_
  refine v_iload_n O dJ0_checkIndex_df160_1 rfl 1 rfl ?_
  refine v_getsF O dJ0_checkIndex_df160_2 (fun v hv => ?_)
  refine v_callS (rm' := { frames := 0, cells := 0, slots := 0, locals := 0 }) (As := [.int a, .int b, v]) (st := []) O dJ0_checkIndex_df160_5 ci_J3_checkIndex ml_J0_1059 ms_J3_checkIndex ⟨rfl, rfl, (by decide), (by decide)⟩ rfl (Nat.le_of_ble_eq_true rfl) rfl (mJ3_checkIndex hv (Q := fun _ X1 Y1 => Q X1 Y1) h) (k_I (fun r1 X1 Y1 h1 => ?_))
  refine v_pop O dJ0_checkIndex_df160_8 rfl ?_
  exact v_vret O r dJ0_checkIndex_df160_9 ⟨rfl, h1⟩
theorem sc_all3 : ∀ i, i < 3 → ∀ j, j < slen.getD i 0 → (((sbyt.getD i []).getD j 0 &&& 255).toUInt32 % 65536).toInt32 = (sbyt.getD i []).getD j 0 ∧ narrow .char (.int ((sbyt.getD i []).getD j 0)) = .int ((sbyt.getD i []).getD j 0) := by
  intro i hi
  match i, hi with
  | 0, _ => decide +kernel
  | 1, _ => decide +kernel
  | 2, _ => decide +kernel
theorem slen_lt : ∀ i, i < 3 → slen.getD i 0 < 7 := by decide
/-- charAt(k) of a constant -/
def sc (i : Nat) (k : Int32) : Int32 := (sbyt.getD i []).getD k.toNatClampNeg 0
theorem mJ1_charAt {Γ : Cxt} {i : Nat} {k : Int32} {X : XT} {Y : YT} {Q : Int32 → XT → YT → Prop} (h : i < 3 ∧ vp_in k (slen.getD i 0) ∧ Q (sc i k) X Y) : MT Γ yJ1_charAt_3b067 (.code yJ1_charAt_3b067 cJ1_charAt_3b067 2 (some .char) :: wl) { frames := 2, cells := 0, slots := 0, locals := 43 } [.ref (83 + i), .int k] X Y (qI Q) := by
  refine mt_of (by decide) (Nat.le_of_ble_eq_true rfl) (fun Γ _ O r => ?_)
  obtain ⟨h1, h2, h3⟩ := h
  have hl := slen_lt i h1
  have hj : k.toNatClampNeg < slen.getD i 0 := Nat.not_le.mp fun q => h2 (Or.inr q)
  have h0 : ¬ k < 0 := fun q => h2 (Or.inl q)
  have hlt : k < nI (slen.getD i 0) := by
    obtain ⟨j, hj2, rfl⟩ := vp_in_of h2 (by omega)
    exact nI_lt hj2 (by omega)
  show V Γ 0 [(0, .ref (83 + i)), (1, .int k)] [] X Y
  refine v_iload_n O dJ1_charAt_3b067_0 rfl 1 rfl ?_
  refine v_aload_n O dJ1_charAt_3b067_1 rfl 0 rfl ?_
  refine v_strL h1 O dJ1_charAt_3b067_2 ?_
  refine v_callS (rm' := { frames := 1, cells := 0, slots := 0, locals := 22 }) (As := [.int k, .int (nI (slen.getD i 0))]) (st := []) O dJ1_charAt_3b067_3 ci_J0_checkIndex ml_J1_9 ms_J0_checkIndex ⟨rfl, rfl, (by decide), (by decide)⟩ rfl (Nat.le_of_ble_eq_true rfl) rfl (mJ0_checkIndex (Q := fun X1 Y1 => Q (sc i k) X1 Y1) ⟨h0, hlt, h3⟩) (k_V (fun X1 Y1 h4 => ?_))
  refine v_aload_n O dJ1_charAt_3b067_6 rfl 0 rfl ?_
  refine v_iload_n O dJ1_charAt_3b067_7 rfl 1 rfl ?_
  refine v_strB h1 h2 O dJ1_charAt_3b067_8 ?_
  refine v_sipush (v := 255) O dJ1_charAt_3b067_9 (by decide) ?_
  refine v_iand O dJ1_charAt_3b067_12 ?_
  refine v_i2c O dJ1_charAt_3b067_13 ?_
  obtain ⟨e1, e2⟩ := sc_all3 i h1 _ hj
  rw [e1]
  exact v_zret O r dJ1_charAt_3b067_14 e2 ⟨_, rfl, h4⟩
theorem mJ0_coder {Γ : Cxt} {i : Nat} (hi : i < 3) {X : XT} {Y : YT} {Q : Int32 → XT → YT → Prop} (h : Q 0 X Y) : MT Γ yJ0_coder_7d493 (.code yJ0_coder_7d493 cJ0_coder_7d493 1 (some .byte) :: wl) { frames := 0, cells := 0, slots := 0, locals := 0 } [.ref (80 + i)] X Y (qI Q) := by
  refine mt_of (by decide) (Nat.le_of_ble_eq_true rfl) (fun Γ _ O r => ?_)
  show V Γ 0 [(0, .ref (80 + i))] [] X Y
  refine v_gets1 O dJ0_coder_7d493_0 ?_
  refine v_if_eq (tgt := 13) O dJ0_coder_7d493_3 (by decide) (fun g => absurd g (by decide)) (fun g => ?_)
  refine v_aload_n O dJ0_coder_7d493_6 rfl 0 rfl ?_
  refine v_strC hi O dJ0_coder_7d493_7 ?_
  refine v_goto (tgt := 14) O dJ0_coder_7d493_10 (by decide) ?_
  exact v_zret O r dJ0_coder_7d493_14 (by decide) ⟨_, rfl, h⟩
theorem mJ0_isLatin1 {Γ : Cxt} {i : Nat} (hi : i < 3) {X : XT} {Y : YT} {Q : Int32 → XT → YT → Prop} (h : Q 1 X Y) : MT Γ yJ0_isLatin1_aae02 (.code yJ0_isLatin1_aae02 cJ0_isLatin1_aae02 1 (some .boolean) :: wl) { frames := 0, cells := 0, slots := 0, locals := 0 } [.ref (80 + i)] X Y (qI Q) := by
  refine mt_of (by decide) (Nat.le_of_ble_eq_true rfl) (fun Γ _ O r => ?_)
  show V Γ 0 [(0, .ref (80 + i))] [] X Y
  refine v_gets1 O dJ0_isLatin1_aae02_0 ?_
  refine v_if_eq (tgt := 17) O dJ0_isLatin1_aae02_3 (by decide) (fun g => absurd g (by decide)) (fun g => ?_)
  refine v_aload_n O dJ0_isLatin1_aae02_6 rfl 0 rfl ?_
  refine v_strC hi O dJ0_isLatin1_aae02_7 ?_
  refine v_if_ne (tgt := 17) O dJ0_isLatin1_aae02_10 (by decide) (fun g => absurd rfl g) (fun g => ?_)
  refine v_iconst (v := 1) O dJ0_isLatin1_aae02_13 (by decide) ?_
  refine v_goto (tgt := 18) O dJ0_isLatin1_aae02_14 (by decide) ?_
  exact v_zret O r dJ0_isLatin1_aae02_18 (by decide) ⟨_, rfl, h⟩
def PJ0_length_8abf5 (i : Nat) (X : XT) (Y : YT) (Q : Int32 → XT → YT → Prop) : Prop := i < 3 ∧ Q (nI (slen.getD i 0)) X Y
theorem mJ0_length_8abf5 {Γ : Cxt} {i : Nat} {X : XT} {Y : YT} {Q : Int32 → XT → YT → Prop} (h : PJ0_length_8abf5 i X Y Q) : MT Γ yJ0_length_8abf5 (.code yJ0_length_8abf5 cJ0_length_8abf5 1 (some .int) :: wl) { frames := 1, cells := 0, slots := 0, locals := 20 } [.ref (80 + i)] X Y (qI Q) := by
  refine mt_of (by decide) (Nat.le_of_ble_eq_true rfl) (fun Γ _ O r => ?_)
  have hl := slen_lt i h.1
  show V Γ 0 [(0, .ref (80 + i))] [] X Y
  refine v_aload_n O dJ0_length_8abf5_0 rfl 0 rfl ?_
  refine v_strV h.1 O dJ0_length_8abf5_1 ?_
  refine v_strL h.1 O dJ0_length_8abf5_4 ?_
  refine v_aload_n O dJ0_length_8abf5_5 rfl 0 rfl ?_
  refine v_callT (rm' := { frames := 0, cells := 0, slots := 0, locals := 0 }) (As := []) (st := [.int (nI (slen.getD i 0))]) O dJ0_length_8abf5_6 ci_J0_coder ml_J0_335 mi_J0_coder rfl h.1 ⟨rfl, rfl, (by decide), (by decide)⟩ rfl (Nat.le_of_ble_eq_true rfl) rfl (mJ0_coder h.1 (Q := fun r X1 Y1 => r = 0 ∧ Q (nI (slen.getD i 0)) X1 Y1) ⟨rfl, h.2⟩) (k_I (fun r1 X1 Y1 h1 => ?_))
  obtain ⟨e, h1⟩ := h1
  subst e
  refine v_ishr O dJ0_length_8abf5_9 ?_
  rw [sb_shr0]
  exact v_iret O r dJ0_length_8abf5_10 ⟨_, rfl, h1⟩
def PJ0_charAt_5068e (i : Nat) (k : Int32) (X : XT) (Y : YT) (Q : Int32 → XT → YT → Prop) : Prop := i < 3 ∧ vp_in k (slen.getD i 0) ∧ Q (sc i k) X Y
theorem mJ0_charAt_5068e {Γ : Cxt} {i : Nat} {k : Int32} {X : XT} {Y : YT} {Q : Int32 → XT → YT → Prop} (h : PJ0_charAt_5068e i k X Y Q) : MT Γ yJ0_charAt_5068e (.code yJ0_charAt_5068e cJ0_charAt_5068e 2 (some .char) :: wl) { frames := 3, cells := 0, slots := 0, locals := 64 } [.ref (80 + i), .int k] X Y (qI Q) := by
  refine mt_of (by decide) (Nat.le_of_ble_eq_true rfl) (fun Γ _ O r => ?_)
  show V Γ 0 [(0, .ref (80 + i)), (1, .int k)] [] X Y
  have hj : k.toNatClampNeg < slen.getD i 0 := Nat.not_le.mp fun q => h.2.1 (Or.inr q)
  obtain ⟨e1, e2⟩ := sc_all3 i h.1 _ hj
  refine v_aload_n O dJ0_charAt_5068e_0 rfl 0 rfl ?_
  refine v_callT (rm' := { frames := 0, cells := 0, slots := 0, locals := 0 }) (As := []) (st := []) O dJ0_charAt_5068e_1 ci_J0_isLatin1 ml_J0_492 mi_J0_isLatin1 rfl h.1 ⟨rfl, rfl, (by decide), (by decide)⟩ rfl (Nat.le_of_ble_eq_true rfl) rfl (mJ0_isLatin1 h.1 (Q := fun r X1 Y1 => r = 1 ∧ Q (sc i k) X1 Y1) ⟨rfl, h.2.2⟩) (k_I (fun r1 X1 Y1 h1 => ?_))
  obtain ⟨e, h1⟩ := h1
  subst e
  refine v_if_eq (tgt := 16) O dJ0_charAt_5068e_4 (by decide) (fun g => absurd g (by decide)) (fun g => ?_)
  refine v_aload_n O dJ0_charAt_5068e_7 rfl 0 rfl ?_
  refine v_strV h.1 O dJ0_charAt_5068e_8 ?_
  refine v_iload_n O dJ0_charAt_5068e_11 rfl 1 rfl ?_
  refine v_callS (rm' := { frames := 2, cells := 0, slots := 0, locals := 43 }) (As := [.ref (83 + i), .int k]) (st := []) O dJ0_charAt_5068e_12 ci_J1_charAt ml_J0_495 ms_J1_charAt ⟨rfl, rfl, (by decide), (by decide)⟩ rfl (Nat.le_of_ble_eq_true rfl) rfl (mJ1_charAt (Q := fun r X2 Y2 => r = sc i k ∧ Q (sc i k) X2 Y2) ⟨h.1, h.2.1, rfl, h1⟩) (k_I (fun r2 X2 Y2 h2 => ?_))
  obtain ⟨e, h2⟩ := h2
  subst e
  exact v_zret O r dJ0_charAt_5068e_15 e2 ⟨_, rfl, h2⟩
/-! Math.min, by the kit's own row -/
theorem min_is : yJ9_min_7cf53 = Lib.Math.min.name ∧ cJ9_min_7cf53 = Lib.Math.min.code := by decide +kernel
theorem min_code : Cond.code yJ9_min_7cf53 cJ9_min_7cf53 2 (some .int) ∈ wl := in_wl (List.mem_append_right _ (List.mem_of_getElem? (i := 772) (by decide +kernel))) rfl
theorem min_stat : Cond.static yJ9_min_7cf53 ∈ wl := in_wl (List.mem_append_right _ (List.mem_of_getElem? (i := 771) (by decide +kernel))) rfl
theorem min_ini : Cond.initialized "java/lang/Math" ∈ wl := in_wl (List.mem_append_right _ (List.mem_of_getElem? (i := 18) (by decide +kernel))) rfl
theorem v_min {Γ : Cxt} {own : String} {cc : ByteArray} {n : Nat} {rm : Room} {pc : Nat} {lv : List (Nat × Value)} {st : List Value} {X : XT} {Y : YT} {idx : Nat} {x y : Int32} (O : Ok Γ own cc n rm) (d : decode cc pc = .ok (.invokestatic idx, 3)) (hl : Cond.methodLink own idx yJ9_min_7cf53 ∈ wl) (h1 : 1 ≤ rm.frames) (h2 : (st.map (fun v => v.category)).sum + 13 ≤ rm.locals) (k : V Γ (pc + 3) lv (.int (if y < x then y else x) :: st) X Y) : V Γ pc lv (.int y :: .int x :: st) X Y := by
  obtain ⟨⟨p, l, e, R, s, m⟩, ⟨args, below, meth, c⟩, ⟨D, cI, cL, ad⟩, ⟨nL, k0, n0⟩, Qf⟩ := Γ
  obtain ⟨O1, O2, O3, O4, O5, O6, O7⟩ := O
  have O5 : R = rm := O5
  subst O5
  have hts := O1.2.2.2.2
  have e1 := hts _ hl
  have e2 := hts _ min_stat
  have e3 := hts _ min_code
  rw [min_is.1] at e1 e2 e3
  rw [min_is.2] at e3
  exact fun H locs ls hP hS hlv => va_mmin O1.1 O1.2.1 (O1.2.2.1.trans hlv.1.symm) O1.2.2.2.1 e1 e2 (hts _ min_ini) e3 h1 (by rw [List.map_map]; simpa [Function.comp_def, tv_cat] using h2) O6 O7 d (k H locs ls hP hS hlv)
