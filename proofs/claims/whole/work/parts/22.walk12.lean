theorem dX10_openedBy_0 : decode cX10_openedBy 0 = .ok (.aload_n 0, 1) := by decide +kernel
theorem dX10_openedBy_1 : decode cX10_openedBy 1 = .ok (.invokevirtual 296, 3) := by decide +kernel
theorem dX10_openedBy_4 : decode cX10_openedBy 4 = .ok (.aload_n 0, 1) := by decide +kernel
theorem dX10_openedBy_5 : decode cX10_openedBy 5 = .ok (.invokevirtual 284, 3) := by decide +kernel
theorem dX10_openedBy_8 : decode cX10_openedBy 8 = .ok (.aload_n 0, 1) := by decide +kernel
theorem dX10_openedBy_9 : decode cX10_openedBy 9 = .ok (.iload_n 1, 1) := by decide +kernel
theorem dX10_openedBy_10 : decode cX10_openedBy 10 = .ok (.invokevirtual 335, 3) := by decide +kernel
theorem dX10_openedBy_13 : decode cX10_openedBy 13 = .ok (.ifCond .eq 5, 3) := by decide +kernel
theorem dX10_openedBy_16 : decode cX10_openedBy 16 = .ok (.iconst 0, 1) := by decide +kernel
theorem dX10_openedBy_17 : decode cX10_openedBy 17 = .ok (.ireturn, 1) := by decide +kernel
theorem dX10_openedBy_18 : decode cX10_openedBy 18 = .ok (.aload_n 0, 1) := by decide +kernel
theorem dX10_openedBy_19 : decode cX10_openedBy 19 = .ok (.iload_n 1, 1) := by decide +kernel
theorem dX10_openedBy_20 : decode cX10_openedBy 20 = .ok (.putfield 240, 3) := by decide +kernel
theorem dX10_openedBy_23 : decode cX10_openedBy 23 = .ok (.aload_n 0, 1) := by decide +kernel
theorem dX10_openedBy_24 : decode cX10_openedBy 24 = .ok (.invokevirtual 299, 3) := by decide +kernel
theorem dX10_openedBy_27 : decode cX10_openedBy 27 = .ok (.ifCond .ne 7, 3) := by decide +kernel
theorem dX10_openedBy_30 : decode cX10_openedBy 30 = .ok (.sipush (-1005), 3) := by decide +kernel
theorem dX10_openedBy_33 : decode cX10_openedBy 33 = .ok (.ireturn, 1) := by decide +kernel
theorem dX10_openedBy_34 : decode cX10_openedBy 34 = .ok (.aload_n 0, 1) := by decide +kernel
theorem dX10_openedBy_35 : decode cX10_openedBy 35 = .ok (.getfield 278, 3) := by decide +kernel
theorem dX10_openedBy_38 : decode cX10_openedBy 38 = .ok (.ifCond .le 14, 3) := by decide +kernel
theorem dX10_openedBy_41 : decode cX10_openedBy 41 = .ok (.aload_n 0, 1) := by decide +kernel
theorem dX10_openedBy_42 : decode cX10_openedBy 42 = .ok (.invokevirtual 332, 3) := by decide +kernel
theorem dX10_openedBy_45 : decode cX10_openedBy 45 = .ok (.ifCond .ne 7, 3) := by decide +kernel
theorem dX10_openedBy_48 : decode cX10_openedBy 48 = .ok (.iconst 1, 1) := by decide +kernel
theorem dX10_openedBy_49 : decode cX10_openedBy 49 = .ok (.goto 4, 3) := by decide +kernel
theorem dX10_openedBy_52 : decode cX10_openedBy 52 = .ok (.iconst 0, 1) := by decide +kernel
theorem dX10_openedBy_53 : decode cX10_openedBy 53 = .ok (.invokestatic 198, 3) := by decide +kernel
theorem dX10_openedBy_56 : decode cX10_openedBy 56 = .ok (.ireturn, 1) := by decide +kernel
def BX10_openedBy_52 (I52 : XT → YT → Prop) (I53 : Int32 → XT → YT → Prop) (Q : Int32 → XT → YT → Prop) (X : XT) (Y : YT) : Prop :=
  I53 0 X Y
def BX10_openedBy_53 (I52 : XT → YT → Prop) (I53 : Int32 → XT → YT → Prop) (Q : Int32 → XT → YT → Prop) (t0 : Int32) (X : XT) (Y : YT) : Prop :=
  PX10_one t0 X Y (fun r1 X2 Y3 => Q r1 X2 Y3)
def BX10_openedBy_s (I52 : XT → YT → Prop) (I53 : Int32 → XT → YT → Prop) (Q : Int32 → XT → YT → Prop) (p0 : Int32) (X : XT) (Y : YT) : Prop :=
  PX10_begin X Y (fun X2 Y3 => PX10_findOpen X2 Y3 (fun X6 Y7 => PX10_showsKept p0 X6 Y7 (fun r9 X10 Y11 => ((r9 = 0 → PX10_goThrough (sX X10 48 37 p0) Y11 (fun r14 X15 Y16 => ((¬ r14 = 0 → (((X15 48 47) ≤ 0 → I52 X15 Y16) ∧ (¬ (X15 48 47) ≤ 0 → PX10_betrayedNow X15 Y16 (fun r20 X21 Y22 => ((¬ r20 = 0 → I52 X21 Y22) ∧ (r20 = 0 → I53 1 X21 Y22)))))) ∧ (r14 = 0 → Q (-1005) X15 Y16)))) ∧ (¬ r9 = 0 → Q 0 X10 Y11)))))
def PX10_openedBy (p0 : Int32) (X : XT) (Y : YT) (Q : Int32 → XT → YT → Prop) : Prop := ∀ (I52 : XT → YT → Prop) (I53 : Int32 → XT → YT → Prop), (∀ (X : XT) (Y : YT), BX10_openedBy_52 I52 I53 Q X Y → I52 X Y) → (∀ (t0 : Int32) (X : XT) (Y : YT), BX10_openedBy_53 I52 I53 Q t0 X Y → I53 t0 X Y) → BX10_openedBy_s I52 I53 Q p0 X Y
set_option maxHeartbeats 4000000 in
set_option maxRecDepth 100000 in
theorem kX10_openedBy_52 {Γ : Cxt} {Q : Int32 → XT → YT → Prop} (O : Ok Γ RX10 cX10_openedBy 2 { frames := 5, cells := 0, slots := 0, locals := 116 }) (r : Ret Γ (some .int) (qI Q)) {I52 : XT → YT → Prop} {I53 : Int32 → XT → YT → Prop} (e52 : ∀ (X : XT) (Y : YT), I52 X Y → V Γ 52 [] [] X Y) (e53 : ∀ (t0 : Int32) (X : XT) (Y : YT), I53 t0 X Y → V Γ 53 [] [.int t0] X Y) {X : XT} {Y : YT} (h : BX10_openedBy_52 I52 I53 Q X Y) : V Γ 52 [] [] X Y := by
  refine v_iconst O dX10_openedBy_52 kc_0 ?_
  exact v_loc [] rfl (e53 0 X Y h)
set_option maxHeartbeats 4000000 in
set_option maxRecDepth 100000 in
theorem kX10_openedBy_53 {Γ : Cxt} {Q : Int32 → XT → YT → Prop} (O : Ok Γ RX10 cX10_openedBy 2 { frames := 5, cells := 0, slots := 0, locals := 116 }) (r : Ret Γ (some .int) (qI Q)) {I52 : XT → YT → Prop} {I53 : Int32 → XT → YT → Prop} (e52 : ∀ (X : XT) (Y : YT), I52 X Y → V Γ 52 [] [] X Y) (e53 : ∀ (t0 : Int32) (X : XT) (Y : YT), I53 t0 X Y → V Γ 53 [] [.int t0] X Y) {t0 : Int32} {X : XT} {Y : YT} (h : BX10_openedBy_53 I52 I53 Q t0 X Y) : V Γ 53 [] [.int t0] X Y := by
  refine v_callS (rm' := { frames := 0, cells := 0, slots := 0, locals := 0 }) (As := [.int t0]) (st := []) O dX10_openedBy_53 ci_X10_one ml_X10_198 ms_X10_one ⟨rfl, rfl, (by decide), (by decide)⟩ rfl (Nat.le_of_ble_eq_true rfl) rfl (mX10_one h) (k_I (fun r1 X2 Y3 h4 => ?_))
  exact v_iret O r dX10_openedBy_56 ⟨_, rfl, h4⟩
set_option maxHeartbeats 4000000 in
set_option maxRecDepth 100000 in
theorem kX10_openedBy_s {Γ : Cxt} {Q : Int32 → XT → YT → Prop} (O : Ok Γ RX10 cX10_openedBy 2 { frames := 5, cells := 0, slots := 0, locals := 116 }) (r : Ret Γ (some .int) (qI Q)) {I52 : XT → YT → Prop} {I53 : Int32 → XT → YT → Prop} (e52 : ∀ (X : XT) (Y : YT), I52 X Y → V Γ 52 [] [] X Y) (e53 : ∀ (t0 : Int32) (X : XT) (Y : YT), I53 t0 X Y → V Γ 53 [] [.int t0] X Y) {p0 : Int32} {X : XT} {Y : YT} (h : BX10_openedBy_s I52 I53 Q p0 X Y) : V Γ 0 [(0, .ref 48), (1, .int p0)] [] X Y := by
  refine v_aload_n O dX10_openedBy_0 rfl 0 rfl ?_
  refine v_callV (rm' := { frames := 0, cells := 0, slots := 0, locals := 0 }) (As := []) (st := []) O dX10_openedBy_1 ci_X10_begin ml_X10_296 mi_X10_begin sh_48 rfl ⟨rfl, rfl, (by decide), (by decide)⟩ rfl (Nat.le_of_ble_eq_true rfl) rfl (mX10_begin h) (k_V (fun X2 Y3 h4 => ?_))
  refine v_aload_n O dX10_openedBy_4 rfl 0 rfl ?_
  refine v_callV (rm' := { frames := 0, cells := 0, slots := 0, locals := 0 }) (As := []) (st := []) O dX10_openedBy_5 ci_X10_findOpen ml_X10_284 mi_X10_findOpen sh_48 rfl ⟨rfl, rfl, (by decide), (by decide)⟩ rfl (Nat.le_of_ble_eq_true rfl) rfl (mX10_findOpen h4) (k_V (fun X6 Y7 h8 => ?_))
  refine v_aload_n O dX10_openedBy_8 rfl 0 rfl ?_
  refine v_iload_n O dX10_openedBy_9 rfl 1 rfl ?_
  refine v_callV (rm' := { frames := 2, cells := 0, slots := 0, locals := 44 }) (As := [.int p0]) (st := []) O dX10_openedBy_10 ci_X10_showsKept ml_X10_335 mi_X10_showsKept sh_48 rfl ⟨rfl, rfl, (by decide), (by decide)⟩ rfl (Nat.le_of_ble_eq_true rfl) rfl (mX10_showsKept h8) (k_I (fun r9 X10 Y11 h12 => ?_))
  refine v_if_eq (tgt := 18) O dX10_openedBy_13 (by decide) (fun g13 => ?_) (fun g13 => ?_)
  · refine v_aload_n O dX10_openedBy_18 rfl 0 rfl ?_
    refine v_iload_n O dX10_openedBy_19 rfl 1 rfl ?_
    refine v_putI O dX10_openedBy_20 fo_X10_240 fp_10_37 sh_48 rfl rfl rfl ?_
    refine v_aload_n O dX10_openedBy_23 rfl 0 rfl ?_
    refine v_callV (rm' := { frames := 4, cells := 0, slots := 0, locals := 94 }) (As := []) (st := []) O dX10_openedBy_24 ci_X10_goThrough ml_X10_299 mi_X10_goThrough sh_48 rfl ⟨rfl, rfl, (by decide), (by decide)⟩ rfl (Nat.le_of_ble_eq_true rfl) rfl (mX10_goThrough (h12.1 g13)) (k_I (fun r14 X15 Y16 h17 => ?_))
    refine v_if_ne (tgt := 34) O dX10_openedBy_27 (by decide) (fun g18 => ?_) (fun g18 => ?_)
    · refine v_aload_n O dX10_openedBy_34 rfl 0 rfl ?_
      refine v_get O dX10_openedBy_35 fo_X10_278 sh_48 rfl rfl ?_
      refine v_if_le (tgt := 52) O dX10_openedBy_38 (by decide) (fun g19 => ?_) (fun g19 => ?_)
      · exact v_loc [] rfl (e52 X15 Y16 ((h17.1 g18).1 g19))
      · refine v_aload_n O dX10_openedBy_41 rfl 0 rfl ?_
        refine v_callV (rm' := { frames := 1, cells := 0, slots := 0, locals := 22 }) (As := []) (st := []) O dX10_openedBy_42 ci_X10_betrayedNow ml_X10_332 mi_X10_betrayedNow sh_48 rfl ⟨rfl, rfl, (by decide), (by decide)⟩ rfl (Nat.le_of_ble_eq_true rfl) rfl (mX10_betrayedNow ((h17.1 g18).2 g19)) (k_I (fun r20 X21 Y22 h23 => ?_))
        refine v_if_ne (tgt := 52) O dX10_openedBy_45 (by decide) (fun g24 => ?_) (fun g24 => ?_)
        · exact v_loc [] rfl (e52 X21 Y22 (h23.1 g24))
        · refine v_iconst O dX10_openedBy_48 kc_1 ?_
          refine v_goto O dX10_openedBy_49 (tgt := 53) (by decide) ?_
          exact v_loc [] rfl (e53 1 X21 Y22 (h23.2 g24))
    · refine v_sipush O dX10_openedBy_30 ks_m1005 ?_
      exact v_iret O r dX10_openedBy_33 ⟨_, rfl, (h17.2 g18)⟩
  · refine v_iconst O dX10_openedBy_16 kc_0 ?_
    exact v_iret O r dX10_openedBy_17 ⟨_, rfl, (h12.2 g13)⟩
set_option maxRecDepth 100000 in
theorem mX10_openedBy {Γ : Cxt} {p0 : Int32} {X : XT} {Y : YT} {Q : Int32 → XT → YT → Prop} (h : PX10_openedBy p0 X Y Q) : MT Γ yX10_openedBy (.code yX10_openedBy cX10_openedBy 2 (some .int) :: wl) { frames := 5, cells := 0, slots := 0, locals := 116 } [.ref 48, .int p0] X Y (qI Q) :=
  mt_of (by decide) (Nat.le_of_ble_eq_true rfl) (fun Γ _ O r => kX10_openedBy_s O r (fun  _ _ g => g) (fun _ _ _ g => g) (h (fun X Y => V Γ 52 [] [] X Y) (fun t0 X Y => V Γ 53 [] [.int t0] X Y) (fun  _ _ g => kX10_openedBy_52 O r (fun  _ _ g => g) (fun _ _ _ g => g) g) (fun _ _ _ g => kX10_openedBy_53 O r (fun  _ _ g => g) (fun _ _ _ g => g) g)))
theorem dX10_opened_0 : decode cX10_opened 0 = .ok (.iload_n 1, 1) := by decide +kernel
theorem dX10_opened_1 : decode cX10_opened 1 = .ok (.i2l, 1) := by decide +kernel
theorem dX10_opened_2 : decode cX10_opened 2 = .ok (.lconst 0, 1) := by decide +kernel
theorem dX10_opened_3 : decode cX10_opened 3 = .ok (.iconst 1, 1) := by decide +kernel
theorem dX10_opened_4 : decode cX10_opened 4 = .ok (.aload_n 0, 1) := by decide +kernel
theorem dX10_opened_5 : decode cX10_opened 5 = .ok (.getfield 156, 3) := by decide +kernel
theorem dX10_opened_8 : decode cX10_opened 8 = .ok (.ishl, 1) := by decide +kernel
theorem dX10_opened_9 : decode cX10_opened 9 = .ok (.iconst 1, 1) := by decide +kernel
theorem dX10_opened_10 : decode cX10_opened 10 = .ok (.isub, 1) := by decide +kernel
theorem dX10_opened_11 : decode cX10_opened 11 = .ok (.i2l, 1) := by decide +kernel
theorem dX10_opened_12 : decode cX10_opened 12 = .ok (.invokestatic 108, 3) := by decide +kernel
theorem dX10_opened_15 : decode cX10_opened 15 = .ok (.ifCond .eq 11, 3) := by decide +kernel
theorem dX10_opened_18 : decode cX10_opened 18 = .ok (.aload_n 0, 1) := by decide +kernel
theorem dX10_opened_19 : decode cX10_opened 19 = .ok (.iload_n 1, 1) := by decide +kernel
theorem dX10_opened_20 : decode cX10_opened 20 = .ok (.invokevirtual 338, 3) := by decide +kernel
theorem dX10_opened_23 : decode cX10_opened 23 = .ok (.goto 6, 3) := by decide +kernel
theorem dX10_opened_26 : decode cX10_opened 26 = .ok (.sipush (-1001), 3) := by decide +kernel
theorem dX10_opened_29 : decode cX10_opened 29 = .ok (.ireturn, 1) := by decide +kernel
def BX10_opened_s (Q : Int32 → XT → YT → Prop) (p0 : Int32) (X : XT) (Y : YT) : Prop :=
  PX10_in (p0.toInt64) (0 : Int64) (((1 <<< ((X 48 13) &&& 31)) - 1).toInt64) X Y (fun r1 X2 Y3 => ((r1 = 0 → Q (-1001) X2 Y3) ∧ (¬ r1 = 0 → PX10_openedBy p0 X2 Y3 (fun r6 X7 Y8 => Q r6 X7 Y8))))
def PX10_opened (p0 : Int32) (X : XT) (Y : YT) (Q : Int32 → XT → YT → Prop) : Prop :=  BX10_opened_s Q p0 X Y
set_option maxHeartbeats 4000000 in
set_option maxRecDepth 100000 in
theorem kX10_opened_s {Γ : Cxt} {Q : Int32 → XT → YT → Prop} (O : Ok Γ RX10 cX10_opened 2 { frames := 6, cells := 0, slots := 0, locals := 137 }) (r : Ret Γ (some .int) (qI Q)) {p0 : Int32} {X : XT} {Y : YT} (h : BX10_opened_s Q p0 X Y) : V Γ 0 [(0, .ref 48), (1, .int p0)] [] X Y := by
  refine v_iload_n O dX10_opened_0 rfl 1 rfl ?_
  refine v_i2l O dX10_opened_1 ?_
  refine v_lconst O dX10_opened_2 (v := 0) (by decide) ?_
  refine v_iconst O dX10_opened_3 kc_1 ?_
  refine v_aload_n O dX10_opened_4 rfl 0 rfl ?_
  refine v_get O dX10_opened_5 fo_X10_156 sh_48 rfl rfl ?_
  refine v_ishl O dX10_opened_8 ?_
  refine v_iconst O dX10_opened_9 kc_1 ?_
  refine v_isub O dX10_opened_10 ?_
  refine v_i2l O dX10_opened_11 ?_
  refine v_callS (rm' := { frames := 0, cells := 0, slots := 0, locals := 0 }) (As := [.long (p0.toInt64), .long (0 : Int64), .long (((1 <<< ((X 48 13) &&& 31)) - 1).toInt64)]) (st := []) O dX10_opened_12 ci_X10_in ml_X10_108 ms_X10_in ⟨rfl, rfl, (by decide), (by decide)⟩ rfl (Nat.le_of_ble_eq_true rfl) rfl (mX10_in h) (k_I (fun r1 X2 Y3 h4 => ?_))
  refine v_if_eq (tgt := 26) O dX10_opened_15 (by decide) (fun g5 => ?_) (fun g5 => ?_)
  · refine v_sipush O dX10_opened_26 ks_m1001 ?_
    exact v_iret O r dX10_opened_29 ⟨_, rfl, (h4.1 g5)⟩
  · refine v_aload_n O dX10_opened_18 rfl 0 rfl ?_
    refine v_iload_n O dX10_opened_19 rfl 1 rfl ?_
    refine v_callV (rm' := { frames := 5, cells := 0, slots := 0, locals := 116 }) (As := [.int p0]) (st := []) O dX10_opened_20 ci_X10_openedBy ml_X10_338 mi_X10_openedBy sh_48 rfl ⟨rfl, rfl, (by decide), (by decide)⟩ rfl (Nat.le_of_ble_eq_true rfl) rfl (mX10_openedBy (h4.2 g5)) (k_I (fun r6 X7 Y8 h9 => ?_))
    refine v_goto O dX10_opened_23 (tgt := 29) (by decide) ?_
    exact v_iret O r dX10_opened_29 ⟨_, rfl, h9⟩
set_option maxRecDepth 100000 in
theorem mX10_opened {Γ : Cxt} {p0 : Int32} {X : XT} {Y : YT} {Q : Int32 → XT → YT → Prop} (h : PX10_opened p0 X Y Q) : MT Γ yX10_opened (.code yX10_opened cX10_opened 2 (some .int) :: wl) { frames := 6, cells := 0, slots := 0, locals := 137 } [.ref 48, .int p0] X Y (qI Q) :=
  mt_of (by decide) (Nat.le_of_ble_eq_true rfl) (fun Γ _ O r => kX10_opened_s O r  (h ))
theorem dX10_most_0 : decode cX10_most 0 = .ok (.aload_n 0, 1) := by decide +kernel
theorem dX10_most_1 : decode cX10_most 1 = .ok (.getfield 156, 3) := by decide +kernel
theorem dX10_most_4 : decode cX10_most 4 = .ok (.istore_n 1, 1) := by decide +kernel
theorem dX10_most_5 : decode cX10_most 5 = .ok (.iload_n 1, 1) := by decide +kernel
theorem dX10_most_6 : decode cX10_most 6 = .ok (.ifCond .lt 56, 3) := by decide +kernel
theorem dX10_most_9 : decode cX10_most 9 = .ok (.iconst 0, 1) := by decide +kernel
theorem dX10_most_10 : decode cX10_most 10 = .ok (.istore_n 2, 1) := by decide +kernel
theorem dX10_most_11 : decode cX10_most 11 = .ok (.iload_n 2, 1) := by decide +kernel
theorem dX10_most_12 : decode cX10_most 12 = .ok (.iconst 1, 1) := by decide +kernel
theorem dX10_most_13 : decode cX10_most 13 = .ok (.aload_n 0, 1) := by decide +kernel
theorem dX10_most_14 : decode cX10_most 14 = .ok (.getfield 156, 3) := by decide +kernel
theorem dX10_most_17 : decode cX10_most 17 = .ok (.ishl, 1) := by decide +kernel
theorem dX10_most_18 : decode cX10_most 18 = .ok (.if_icmp .ge 38, 3) := by decide +kernel
theorem dX10_most_21 : decode cX10_most 21 = .ok (.iload_n 2, 1) := by decide +kernel
theorem dX10_most_22 : decode cX10_most 22 = .ok (.invokestatic 152, 3) := by decide +kernel
theorem dX10_most_25 : decode cX10_most 25 = .ok (.iload_n 1, 1) := by decide +kernel
theorem dX10_most_26 : decode cX10_most 26 = .ok (.if_icmp .ne 24, 3) := by decide +kernel
theorem dX10_most_29 : decode cX10_most 29 = .ok (.aload_n 0, 1) := by decide +kernel
theorem dX10_most_30 : decode cX10_most 30 = .ok (.iload_n 2, 1) := by decide +kernel
theorem dX10_most_31 : decode cX10_most 31 = .ok (.invokevirtual 338, 3) := by decide +kernel
theorem dX10_most_34 : decode cX10_most 34 = .ok (.istore_n 3, 1) := by decide +kernel
theorem dX10_most_35 : decode cX10_most 35 = .ok (.iload_n 3, 1) := by decide +kernel
theorem dX10_most_36 : decode cX10_most 36 = .ok (.ifCond .eq 14, 3) := by decide +kernel
theorem dX10_most_39 : decode cX10_most 39 = .ok (.iload_n 3, 1) := by decide +kernel
theorem dX10_most_40 : decode cX10_most 40 = .ok (.iconst 1, 1) := by decide +kernel
theorem dX10_most_41 : decode cX10_most 41 = .ok (.if_icmp .ne 7, 3) := by decide +kernel
theorem dX10_most_44 : decode cX10_most 44 = .ok (.iload_n 2, 1) := by decide +kernel
theorem dX10_most_45 : decode cX10_most 45 = .ok (.goto 4, 3) := by decide +kernel
theorem dX10_most_48 : decode cX10_most 48 = .ok (.iload_n 3, 1) := by decide +kernel
theorem dX10_most_49 : decode cX10_most 49 = .ok (.ireturn, 1) := by decide +kernel
theorem dX10_most_50 : decode cX10_most 50 = .ok (.iinc 2 1, 3) := by decide +kernel
theorem dX10_most_53 : decode cX10_most 53 = .ok (.goto (-42), 3) := by decide +kernel
theorem dX10_most_56 : decode cX10_most 56 = .ok (.iinc 1 (-1), 3) := by decide +kernel
theorem dX10_most_59 : decode cX10_most 59 = .ok (.goto (-54), 3) := by decide +kernel
theorem dX10_most_62 : decode cX10_most 62 = .ok (.iconst (-1), 1) := by decide +kernel
theorem dX10_most_63 : decode cX10_most 63 = .ok (.ireturn, 1) := by decide +kernel
def BX10_most_5 (I5 : Int32 → XT → YT → Prop) (I11 : Int32 → Int32 → XT → YT → Prop) (Q : Int32 → XT → YT → Prop) (a1 : Int32) (X : XT) (Y : YT) : Prop :=
  ((a1 < 0 → Q (-1) X Y) ∧ (¬ a1 < 0 → I11 a1 0 X Y))
def BX10_most_11 (I5 : Int32 → XT → YT → Prop) (I11 : Int32 → Int32 → XT → YT → Prop) (Q : Int32 → XT → YT → Prop) (a1 : Int32) (a2 : Int32) (X : XT) (Y : YT) : Prop :=
  (((1 <<< ((X 48 13) &&& 31)) ≤ a2 → ∀ w2 : Int32, w2 = a1 + (-1) → I5 w2 X Y) ∧ (¬ (1 <<< ((X 48 13) &&& 31)) ≤ a2 → PX10_ones a2 X Y (fun r4 X5 Y6 => ((¬ r4 = a1 → ∀ w9 : Int32, w9 = a2 + 1 → I11 a1 w9 X5 Y6) ∧ (r4 = a1 → PX10_openedBy a2 X5 Y6 (fun r11 X12 Y13 => ((r11 = 0 → ∀ w16 : Int32, w16 = a2 + 1 → I11 a1 w16 X12 Y13) ∧ (¬ r11 = 0 → ((¬ r11 = 1 → Q r11 X12 Y13) ∧ (r11 = 1 → Q a2 X12 Y13))))))))))
def BX10_most_s (I5 : Int32 → XT → YT → Prop) (I11 : Int32 → Int32 → XT → YT → Prop) (Q : Int32 → XT → YT → Prop) (X : XT) (Y : YT) : Prop :=
  ∀ w1 : Int32, w1 = (X 48 13) → I5 w1 X Y
def PX10_most (X : XT) (Y : YT) (Q : Int32 → XT → YT → Prop) : Prop := ∀ (I5 : Int32 → XT → YT → Prop) (I11 : Int32 → Int32 → XT → YT → Prop), (∀ (a1 : Int32) (X : XT) (Y : YT), BX10_most_5 I5 I11 Q a1 X Y → I5 a1 X Y) → (∀ (a1 : Int32) (a2 : Int32) (X : XT) (Y : YT), BX10_most_11 I5 I11 Q a1 a2 X Y → I11 a1 a2 X Y) → BX10_most_s I5 I11 Q X Y
set_option maxHeartbeats 4000000 in
set_option maxRecDepth 100000 in
theorem kX10_most_5 {Γ : Cxt} {Q : Int32 → XT → YT → Prop} (O : Ok Γ RX10 cX10_most 4 { frames := 6, cells := 0, slots := 0, locals := 137 }) (r : Ret Γ (some .int) (qI Q)) {I5 : Int32 → XT → YT → Prop} {I11 : Int32 → Int32 → XT → YT → Prop} (e5 : ∀ (a1 : Int32) (X : XT) (Y : YT), I5 a1 X Y → V Γ 5 [(0, .ref 48), (1, .int a1)] [] X Y) (e11 : ∀ (a1 : Int32) (a2 : Int32) (X : XT) (Y : YT), I11 a1 a2 X Y → V Γ 11 [(0, .ref 48), (1, .int a1), (2, .int a2)] [] X Y) {a1 : Int32} {X : XT} {Y : YT} (h : BX10_most_5 I5 I11 Q a1 X Y) : V Γ 5 [(0, .ref 48), (1, .int a1)] [] X Y := by
  refine v_iload_n O dX10_most_5 rfl 1 rfl ?_
  refine v_if_lt (tgt := 62) O dX10_most_6 (by decide) (fun g1 => ?_) (fun g1 => ?_)
  · refine v_iconst O dX10_most_62 kc_m1 ?_
    exact v_iret O r dX10_most_63 ⟨_, rfl, (h.1 g1)⟩
  · refine v_iconst O dX10_most_9 kc_0 ?_
    refine v_istore_n (lv' := [(2, .int 0), (0, .ref 48), (1, .int a1)]) O dX10_most_10 rfl (by decide) rfl ?_
    exact v_loc [1, 2, 0] rfl (e11 a1 0 X Y (h.2 g1))
set_option maxHeartbeats 4000000 in
set_option maxRecDepth 100000 in
theorem kX10_most_11 {Γ : Cxt} {Q : Int32 → XT → YT → Prop} (O : Ok Γ RX10 cX10_most 4 { frames := 6, cells := 0, slots := 0, locals := 137 }) (r : Ret Γ (some .int) (qI Q)) {I5 : Int32 → XT → YT → Prop} {I11 : Int32 → Int32 → XT → YT → Prop} (e5 : ∀ (a1 : Int32) (X : XT) (Y : YT), I5 a1 X Y → V Γ 5 [(0, .ref 48), (1, .int a1)] [] X Y) (e11 : ∀ (a1 : Int32) (a2 : Int32) (X : XT) (Y : YT), I11 a1 a2 X Y → V Γ 11 [(0, .ref 48), (1, .int a1), (2, .int a2)] [] X Y) {a1 : Int32} {a2 : Int32} {X : XT} {Y : YT} (h : BX10_most_11 I5 I11 Q a1 a2 X Y) : V Γ 11 [(0, .ref 48), (1, .int a1), (2, .int a2)] [] X Y := by
  refine v_iload_n O dX10_most_11 rfl 2 rfl ?_
  refine v_iconst O dX10_most_12 kc_1 ?_
  refine v_aload_n O dX10_most_13 rfl 0 rfl ?_
  refine v_get O dX10_most_14 fo_X10_156 sh_48 rfl rfl ?_
  refine v_ishl O dX10_most_17 ?_
  refine v_icmp_ge (tgt := 56) O dX10_most_18 (by decide) (fun g1 => ?_) (fun g1 => ?_)
  · obtain ⟨w2, hw3⟩ : ∃ y : Int32, y = a1 + (-1) := ⟨_, rfl⟩
    refine v_iinc (v := w2) (j := 1) O dX10_most_56 rfl (by rw [hw3]; exact congrArg _ kc_m1) (by decide) (lv' := [(1, .int w2), (0, .ref 48), (2, .int a2)]) rfl ?_
    refine v_goto O dX10_most_59 (tgt := 5) (by decide) ?_
    exact v_loc [1, 0] rfl (e5 w2 X Y ((h.1 g1) w2 hw3))
  · refine v_iload_n O dX10_most_21 rfl 2 rfl ?_
    refine v_callS (rm' := { frames := 0, cells := 0, slots := 0, locals := 0 }) (As := [.int a2]) (st := []) O dX10_most_22 ci_X10_ones ml_X10_152 ms_X10_ones ⟨rfl, rfl, (by decide), (by decide)⟩ rfl (Nat.le_of_ble_eq_true rfl) rfl (mX10_ones (h.2 g1)) (k_I (fun r4 X5 Y6 h7 => ?_))
    refine v_iload_n O dX10_most_25 rfl 1 rfl ?_
    refine v_icmp_ne (tgt := 50) O dX10_most_26 (by decide) (fun g8 => ?_) (fun g8 => ?_)
    · obtain ⟨w9, hw10⟩ : ∃ y : Int32, y = a2 + 1 := ⟨_, rfl⟩
      refine v_iinc (v := w9) (j := 2) O dX10_most_50 rfl (by rw [hw10]; exact congrArg _ kc_1) (by decide) (lv' := [(2, .int w9), (0, .ref 48), (1, .int a1)]) rfl ?_
      refine v_goto O dX10_most_53 (tgt := 11) (by decide) ?_
      exact v_loc [1, 2, 0] rfl (e11 a1 w9 X5 Y6 ((h7.1 g8) w9 hw10))
    · refine v_aload_n O dX10_most_29 rfl 0 rfl ?_
      refine v_iload_n O dX10_most_30 rfl 2 rfl ?_
      refine v_callV (rm' := { frames := 5, cells := 0, slots := 0, locals := 116 }) (As := [.int a2]) (st := []) O dX10_most_31 ci_X10_openedBy ml_X10_338 mi_X10_openedBy sh_48 rfl ⟨rfl, rfl, (by decide), (by decide)⟩ rfl (Nat.le_of_ble_eq_true rfl) rfl (mX10_openedBy (h7.2 g8)) (k_I (fun r11 X12 Y13 h14 => ?_))
      refine v_istore_n (lv' := [(3, .int r11), (0, .ref 48), (1, .int a1), (2, .int a2)]) O dX10_most_34 rfl (by decide) rfl ?_
      refine v_iload_n O dX10_most_35 rfl 0 rfl ?_
      refine v_if_eq (tgt := 50) O dX10_most_36 (by decide) (fun g15 => ?_) (fun g15 => ?_)
      · obtain ⟨w16, hw17⟩ : ∃ y : Int32, y = a2 + 1 := ⟨_, rfl⟩
        refine v_iinc (v := w16) (j := 3) O dX10_most_50 rfl (by rw [hw17]; exact congrArg _ kc_1) (by decide) (lv' := [(2, .int w16), (3, .int r11), (0, .ref 48), (1, .int a1)]) rfl ?_
        refine v_goto O dX10_most_53 (tgt := 11) (by decide) ?_
        exact v_loc [2, 3, 0] rfl (e11 a1 w16 X12 Y13 ((h14.1 g15) w16 hw17))
      · refine v_iload_n O dX10_most_39 rfl 0 rfl ?_
        refine v_iconst O dX10_most_40 kc_1 ?_
        refine v_icmp_ne (tgt := 48) O dX10_most_41 (by decide) (fun g18 => ?_) (fun g18 => ?_)
        · refine v_iload_n O dX10_most_48 rfl 0 rfl ?_
          exact v_iret O r dX10_most_49 ⟨_, rfl, ((h14.2 g15).1 g18)⟩
        · refine v_iload_n O dX10_most_44 rfl 3 rfl ?_
          refine v_goto O dX10_most_45 (tgt := 49) (by decide) ?_
          exact v_iret O r dX10_most_49 ⟨_, rfl, ((h14.2 g15).2 g18)⟩
set_option maxHeartbeats 4000000 in
set_option maxRecDepth 100000 in
theorem kX10_most_s {Γ : Cxt} {Q : Int32 → XT → YT → Prop} (O : Ok Γ RX10 cX10_most 4 { frames := 6, cells := 0, slots := 0, locals := 137 }) (r : Ret Γ (some .int) (qI Q)) {I5 : Int32 → XT → YT → Prop} {I11 : Int32 → Int32 → XT → YT → Prop} (e5 : ∀ (a1 : Int32) (X : XT) (Y : YT), I5 a1 X Y → V Γ 5 [(0, .ref 48), (1, .int a1)] [] X Y) (e11 : ∀ (a1 : Int32) (a2 : Int32) (X : XT) (Y : YT), I11 a1 a2 X Y → V Γ 11 [(0, .ref 48), (1, .int a1), (2, .int a2)] [] X Y) {X : XT} {Y : YT} (h : BX10_most_s I5 I11 Q X Y) : V Γ 0 [(0, .ref 48)] [] X Y := by
  refine v_aload_n O dX10_most_0 rfl 0 rfl ?_
  refine v_get O dX10_most_1 fo_X10_156 sh_48 rfl rfl ?_
  refine v_topi (fun w1 hw2 => ?_)
  refine v_istore_n (lv' := [(1, .int w1), (0, .ref 48)]) O dX10_most_4 rfl (by decide) rfl ?_
  exact v_loc [1, 0] rfl (e5 w1 X Y (h w1 hw2))
set_option maxRecDepth 100000 in
theorem mX10_most {Γ : Cxt} {X : XT} {Y : YT} {Q : Int32 → XT → YT → Prop} (h : PX10_most X Y Q) : MT Γ yX10_most (.code yX10_most cX10_most 4 (some .int) :: wl) { frames := 6, cells := 0, slots := 0, locals := 137 } [.ref 48] X Y (qI Q) :=
  mt_of (by decide) (Nat.le_of_ble_eq_true rfl) (fun Γ _ O r => kX10_most_s O r (fun _ _ _ g => g) (fun _ _ _ _ g => g) (h (fun a1 X Y => V Γ 5 [(0, .ref 48), (1, .int a1)] [] X Y) (fun a1 a2 X Y => V Γ 11 [(0, .ref 48), (1, .int a1), (2, .int a2)] [] X Y) (fun _ _ _ g => kX10_most_5 O r (fun _ _ _ g => g) (fun _ _ _ _ g => g) g) (fun _ _ _ _ g => kX10_most_11 O r (fun _ _ _ g => g) (fun _ _ _ _ g => g) g)))
theorem dX10_isSafe_0 : decode cX10_isSafe 0 = .ok (.aload_n 0, 1) := by decide +kernel
theorem dX10_isSafe_1 : decode cX10_isSafe 1 = .ok (.invokevirtual 296, 3) := by decide +kernel
theorem dX10_isSafe_4 : decode cX10_isSafe 4 = .ok (.aload_n 0, 1) := by decide +kernel
theorem dX10_isSafe_5 : decode cX10_isSafe 5 = .ok (.invokevirtual 284, 3) := by decide +kernel
theorem dX10_isSafe_8 : decode cX10_isSafe 8 = .ok (.aload_n 0, 1) := by decide +kernel
theorem dX10_isSafe_9 : decode cX10_isSafe 9 = .ok (.iload_n 1, 1) := by decide +kernel
theorem dX10_isSafe_10 : decode cX10_isSafe 10 = .ok (.putfield 237, 3) := by decide +kernel
theorem dX10_isSafe_13 : decode cX10_isSafe 13 = .ok (.aload_n 0, 1) := by decide +kernel
theorem dX10_isSafe_14 : decode cX10_isSafe 14 = .ok (.iconst 1, 1) := by decide +kernel
theorem dX10_isSafe_15 : decode cX10_isSafe 15 = .ok (.aload_n 0, 1) := by decide +kernel
theorem dX10_isSafe_16 : decode cX10_isSafe 16 = .ok (.getfield 156, 3) := by decide +kernel
theorem dX10_isSafe_19 : decode cX10_isSafe 19 = .ok (.ishl, 1) := by decide +kernel
theorem dX10_isSafe_20 : decode cX10_isSafe 20 = .ok (.iconst 1, 1) := by decide +kernel
theorem dX10_isSafe_21 : decode cX10_isSafe 21 = .ok (.isub, 1) := by decide +kernel
theorem dX10_isSafe_22 : decode cX10_isSafe 22 = .ok (.invokevirtual 335, 3) := by decide +kernel
theorem dX10_isSafe_25 : decode cX10_isSafe 25 = .ok (.ifCond .eq 5, 3) := by decide +kernel
theorem dX10_isSafe_28 : decode cX10_isSafe 28 = .ok (.iconst 0, 1) := by decide +kernel
theorem dX10_isSafe_29 : decode cX10_isSafe 29 = .ok (.ireturn, 1) := by decide +kernel
theorem dX10_isSafe_30 : decode cX10_isSafe 30 = .ok (.aload_n 0, 1) := by decide +kernel
theorem dX10_isSafe_31 : decode cX10_isSafe 31 = .ok (.invokevirtual 299, 3) := by decide +kernel
theorem dX10_isSafe_34 : decode cX10_isSafe 34 = .ok (.ifCond .ne 7, 3) := by decide +kernel
theorem dX10_isSafe_37 : decode cX10_isSafe 37 = .ok (.sipush (-1005), 3) := by decide +kernel
theorem dX10_isSafe_40 : decode cX10_isSafe 40 = .ok (.ireturn, 1) := by decide +kernel
theorem dX10_isSafe_41 : decode cX10_isSafe 41 = .ok (.aload_n 0, 1) := by decide +kernel
theorem dX10_isSafe_42 : decode cX10_isSafe 42 = .ok (.invokevirtual 332, 3) := by decide +kernel
theorem dX10_isSafe_45 : decode cX10_isSafe 45 = .ok (.ifCond .ne 7, 3) := by decide +kernel
theorem dX10_isSafe_48 : decode cX10_isSafe 48 = .ok (.iconst 1, 1) := by decide +kernel
theorem dX10_isSafe_49 : decode cX10_isSafe 49 = .ok (.goto 4, 3) := by decide +kernel
theorem dX10_isSafe_52 : decode cX10_isSafe 52 = .ok (.iconst 0, 1) := by decide +kernel
theorem dX10_isSafe_53 : decode cX10_isSafe 53 = .ok (.invokestatic 198, 3) := by decide +kernel
theorem dX10_isSafe_56 : decode cX10_isSafe 56 = .ok (.ireturn, 1) := by decide +kernel
def BX10_isSafe_53 (I53 : Int32 → XT → YT → Prop) (Q : Int32 → XT → YT → Prop) (t0 : Int32) (X : XT) (Y : YT) : Prop :=
  PX10_one t0 X Y (fun r1 X2 Y3 => Q r1 X2 Y3)
def BX10_isSafe_s (I53 : Int32 → XT → YT → Prop) (Q : Int32 → XT → YT → Prop) (p0 : Int32) (X : XT) (Y : YT) : Prop :=
  PX10_begin X Y (fun X2 Y3 => PX10_findOpen X2 Y3 (fun X6 Y7 => PX10_showsKept ((1 <<< (((sX X6 48 38 p0) 48 13) &&& 31)) - 1) (sX X6 48 38 p0) Y7 (fun r9 X10 Y11 => ((r9 = 0 → PX10_goThrough X10 Y11 (fun r14 X15 Y16 => ((¬ r14 = 0 → PX10_betrayedNow X15 Y16 (fun r19 X20 Y21 => ((¬ r19 = 0 → I53 0 X20 Y21) ∧ (r19 = 0 → I53 1 X20 Y21)))) ∧ (r14 = 0 → Q (-1005) X15 Y16)))) ∧ (¬ r9 = 0 → Q 0 X10 Y11)))))
def PX10_isSafe (p0 : Int32) (X : XT) (Y : YT) (Q : Int32 → XT → YT → Prop) : Prop := ∀ (I53 : Int32 → XT → YT → Prop), (∀ (t0 : Int32) (X : XT) (Y : YT), BX10_isSafe_53 I53 Q t0 X Y → I53 t0 X Y) → BX10_isSafe_s I53 Q p0 X Y
set_option maxHeartbeats 4000000 in
set_option maxRecDepth 100000 in
theorem kX10_isSafe_53 {Γ : Cxt} {Q : Int32 → XT → YT → Prop} (O : Ok Γ RX10 cX10_isSafe 2 { frames := 5, cells := 0, slots := 0, locals := 116 }) (r : Ret Γ (some .int) (qI Q)) {I53 : Int32 → XT → YT → Prop} (e53 : ∀ (t0 : Int32) (X : XT) (Y : YT), I53 t0 X Y → V Γ 53 [] [.int t0] X Y) {t0 : Int32} {X : XT} {Y : YT} (h : BX10_isSafe_53 I53 Q t0 X Y) : V Γ 53 [] [.int t0] X Y := by
  refine v_callS (rm' := { frames := 0, cells := 0, slots := 0, locals := 0 }) (As := [.int t0]) (st := []) O dX10_isSafe_53 ci_X10_one ml_X10_198 ms_X10_one ⟨rfl, rfl, (by decide), (by decide)⟩ rfl (Nat.le_of_ble_eq_true rfl) rfl (mX10_one h) (k_I (fun r1 X2 Y3 h4 => ?_))
  exact v_iret O r dX10_isSafe_56 ⟨_, rfl, h4⟩
set_option maxHeartbeats 4000000 in
set_option maxRecDepth 100000 in
theorem kX10_isSafe_s {Γ : Cxt} {Q : Int32 → XT → YT → Prop} (O : Ok Γ RX10 cX10_isSafe 2 { frames := 5, cells := 0, slots := 0, locals := 116 }) (r : Ret Γ (some .int) (qI Q)) {I53 : Int32 → XT → YT → Prop} (e53 : ∀ (t0 : Int32) (X : XT) (Y : YT), I53 t0 X Y → V Γ 53 [] [.int t0] X Y) {p0 : Int32} {X : XT} {Y : YT} (h : BX10_isSafe_s I53 Q p0 X Y) : V Γ 0 [(0, .ref 48), (1, .int p0)] [] X Y := by
  refine v_aload_n O dX10_isSafe_0 rfl 0 rfl ?_
  refine v_callV (rm' := { frames := 0, cells := 0, slots := 0, locals := 0 }) (As := []) (st := []) O dX10_isSafe_1 ci_X10_begin ml_X10_296 mi_X10_begin sh_48 rfl ⟨rfl, rfl, (by decide), (by decide)⟩ rfl (Nat.le_of_ble_eq_true rfl) rfl (mX10_begin h) (k_V (fun X2 Y3 h4 => ?_))
  refine v_aload_n O dX10_isSafe_4 rfl 0 rfl ?_
  refine v_callV (rm' := { frames := 0, cells := 0, slots := 0, locals := 0 }) (As := []) (st := []) O dX10_isSafe_5 ci_X10_findOpen ml_X10_284 mi_X10_findOpen sh_48 rfl ⟨rfl, rfl, (by decide), (by decide)⟩ rfl (Nat.le_of_ble_eq_true rfl) rfl (mX10_findOpen h4) (k_V (fun X6 Y7 h8 => ?_))
  refine v_aload_n O dX10_isSafe_8 rfl 0 rfl ?_
  refine v_iload_n O dX10_isSafe_9 rfl 1 rfl ?_
  refine v_putI O dX10_isSafe_10 fo_X10_237 fp_10_38 sh_48 rfl rfl rfl ?_
  refine v_aload_n O dX10_isSafe_13 rfl 0 rfl ?_
  refine v_iconst O dX10_isSafe_14 kc_1 ?_
  refine v_aload_n O dX10_isSafe_15 rfl 0 rfl ?_
  refine v_get O dX10_isSafe_16 fo_X10_156 sh_48 rfl rfl ?_
  refine v_ishl O dX10_isSafe_19 ?_
  refine v_iconst O dX10_isSafe_20 kc_1 ?_
  refine v_isub O dX10_isSafe_21 ?_
  refine v_callV (rm' := { frames := 2, cells := 0, slots := 0, locals := 44 }) (As := [.int ((1 <<< (((sX X6 48 38 p0) 48 13) &&& 31)) - 1)]) (st := []) O dX10_isSafe_22 ci_X10_showsKept ml_X10_335 mi_X10_showsKept sh_48 rfl ⟨rfl, rfl, (by decide), (by decide)⟩ rfl (Nat.le_of_ble_eq_true rfl) rfl (mX10_showsKept h8) (k_I (fun r9 X10 Y11 h12 => ?_))
  refine v_if_eq (tgt := 30) O dX10_isSafe_25 (by decide) (fun g13 => ?_) (fun g13 => ?_)
  · refine v_aload_n O dX10_isSafe_30 rfl 0 rfl ?_
    refine v_callV (rm' := { frames := 4, cells := 0, slots := 0, locals := 94 }) (As := []) (st := []) O dX10_isSafe_31 ci_X10_goThrough ml_X10_299 mi_X10_goThrough sh_48 rfl ⟨rfl, rfl, (by decide), (by decide)⟩ rfl (Nat.le_of_ble_eq_true rfl) rfl (mX10_goThrough (h12.1 g13)) (k_I (fun r14 X15 Y16 h17 => ?_))
    refine v_if_ne (tgt := 41) O dX10_isSafe_34 (by decide) (fun g18 => ?_) (fun g18 => ?_)
    · refine v_aload_n O dX10_isSafe_41 rfl 0 rfl ?_
      refine v_callV (rm' := { frames := 1, cells := 0, slots := 0, locals := 22 }) (As := []) (st := []) O dX10_isSafe_42 ci_X10_betrayedNow ml_X10_332 mi_X10_betrayedNow sh_48 rfl ⟨rfl, rfl, (by decide), (by decide)⟩ rfl (Nat.le_of_ble_eq_true rfl) rfl (mX10_betrayedNow (h17.1 g18)) (k_I (fun r19 X20 Y21 h22 => ?_))
      refine v_if_ne (tgt := 52) O dX10_isSafe_45 (by decide) (fun g23 => ?_) (fun g23 => ?_)
      · refine v_iconst O dX10_isSafe_52 kc_0 ?_
        exact v_loc [] rfl (e53 0 X20 Y21 (h22.1 g23))
      · refine v_iconst O dX10_isSafe_48 kc_1 ?_
        refine v_goto O dX10_isSafe_49 (tgt := 53) (by decide) ?_
        exact v_loc [] rfl (e53 1 X20 Y21 (h22.2 g23))
    · refine v_sipush O dX10_isSafe_37 ks_m1005 ?_
      exact v_iret O r dX10_isSafe_40 ⟨_, rfl, (h17.2 g18)⟩
  · refine v_iconst O dX10_isSafe_28 kc_0 ?_
    exact v_iret O r dX10_isSafe_29 ⟨_, rfl, (h12.2 g13)⟩
set_option maxRecDepth 100000 in
theorem mX10_isSafe {Γ : Cxt} {p0 : Int32} {X : XT} {Y : YT} {Q : Int32 → XT → YT → Prop} (h : PX10_isSafe p0 X Y Q) : MT Γ yX10_isSafe (.code yX10_isSafe cX10_isSafe 2 (some .int) :: wl) { frames := 5, cells := 0, slots := 0, locals := 116 } [.ref 48, .int p0] X Y (qI Q) :=
  mt_of (by decide) (Nat.le_of_ble_eq_true rfl) (fun Γ _ O r => kX10_isSafe_s O r (fun _ _ _ g => g) (h (fun t0 X Y => V Γ 53 [] [.int t0] X Y) (fun _ _ _ g => kX10_isSafe_53 O r (fun _ _ _ g => g) g)))
theorem dX10_fewest_0 : decode cX10_fewest 0 = .ok (.aload_n 0, 1) := by decide +kernel
theorem dX10_fewest_1 : decode cX10_fewest 1 = .ok (.invokevirtual 284, 3) := by decide +kernel
theorem dX10_fewest_4 : decode cX10_fewest 4 = .ok (.aload_n 0, 1) := by decide +kernel
theorem dX10_fewest_5 : decode cX10_fewest 5 = .ok (.getfield 234, 3) := by decide +kernel
theorem dX10_fewest_8 : decode cX10_fewest 8 = .ok (.istore_n 1, 1) := by decide +kernel
theorem dX10_fewest_9 : decode cX10_fewest 9 = .ok (.iconst 0, 1) := by decide +kernel
theorem dX10_fewest_10 : decode cX10_fewest 10 = .ok (.istore_n 2, 1) := by decide +kernel
theorem dX10_fewest_11 : decode cX10_fewest 11 = .ok (.iload_n 2, 1) := by decide +kernel
theorem dX10_fewest_12 : decode cX10_fewest 12 = .ok (.iload_n 1, 1) := by decide +kernel
theorem dX10_fewest_13 : decode cX10_fewest 13 = .ok (.if_icmp .gt 57, 3) := by decide +kernel
theorem dX10_fewest_16 : decode cX10_fewest 16 = .ok (.iconst 0, 1) := by decide +kernel
theorem dX10_fewest_17 : decode cX10_fewest 17 = .ok (.istore_n 3, 1) := by decide +kernel
theorem dX10_fewest_18 : decode cX10_fewest 18 = .ok (.iload_n 3, 1) := by decide +kernel
theorem dX10_fewest_19 : decode cX10_fewest 19 = .ok (.iconst 1, 1) := by decide +kernel
theorem dX10_fewest_20 : decode cX10_fewest 20 = .ok (.iload_n 1, 1) := by decide +kernel
theorem dX10_fewest_21 : decode cX10_fewest 21 = .ok (.ishl, 1) := by decide +kernel
theorem dX10_fewest_22 : decode cX10_fewest 22 = .ok (.if_icmp .ge 42, 3) := by decide +kernel
theorem dX10_fewest_25 : decode cX10_fewest 25 = .ok (.iload_n 3, 1) := by decide +kernel
theorem dX10_fewest_26 : decode cX10_fewest 26 = .ok (.invokestatic 152, 3) := by decide +kernel
theorem dX10_fewest_29 : decode cX10_fewest 29 = .ok (.iload_n 2, 1) := by decide +kernel
theorem dX10_fewest_30 : decode cX10_fewest 30 = .ok (.if_icmp .ne 28, 3) := by decide +kernel
theorem dX10_fewest_33 : decode cX10_fewest 33 = .ok (.aload_n 0, 1) := by decide +kernel
theorem dX10_fewest_34 : decode cX10_fewest 34 = .ok (.iload_n 3, 1) := by decide +kernel
theorem dX10_fewest_35 : decode cX10_fewest 35 = .ok (.invokevirtual 341, 3) := by decide +kernel
theorem dX10_fewest_38 : decode cX10_fewest 38 = .ok (.istore 4, 2) := by decide +kernel
theorem dX10_fewest_40 : decode cX10_fewest 40 = .ok (.iload 4, 2) := by decide +kernel
theorem dX10_fewest_42 : decode cX10_fewest 42 = .ok (.ifCond .eq 16, 3) := by decide +kernel
theorem dX10_fewest_45 : decode cX10_fewest 45 = .ok (.iload 4, 2) := by decide +kernel
theorem dX10_fewest_47 : decode cX10_fewest 47 = .ok (.iconst 1, 1) := by decide +kernel
theorem dX10_fewest_48 : decode cX10_fewest 48 = .ok (.if_icmp .ne 7, 3) := by decide +kernel
theorem dX10_fewest_51 : decode cX10_fewest 51 = .ok (.iload_n 3, 1) := by decide +kernel
theorem dX10_fewest_52 : decode cX10_fewest 52 = .ok (.goto 5, 3) := by decide +kernel
theorem dX10_fewest_55 : decode cX10_fewest 55 = .ok (.iload 4, 2) := by decide +kernel
theorem dX10_fewest_57 : decode cX10_fewest 57 = .ok (.ireturn, 1) := by decide +kernel
theorem dX10_fewest_58 : decode cX10_fewest 58 = .ok (.iinc 3 1, 3) := by decide +kernel
theorem dX10_fewest_61 : decode cX10_fewest 61 = .ok (.goto (-43), 3) := by decide +kernel
theorem dX10_fewest_64 : decode cX10_fewest 64 = .ok (.iinc 2 1, 3) := by decide +kernel
theorem dX10_fewest_67 : decode cX10_fewest 67 = .ok (.goto (-56), 3) := by decide +kernel
theorem dX10_fewest_70 : decode cX10_fewest 70 = .ok (.iconst (-1), 1) := by decide +kernel
theorem dX10_fewest_71 : decode cX10_fewest 71 = .ok (.ireturn, 1) := by decide +kernel
def BX10_fewest_11 (I11 : Int32 → Int32 → XT → YT → Prop) (I18 : Int32 → Int32 → Int32 → XT → YT → Prop) (Q : Int32 → XT → YT → Prop) (a1 : Int32) (a2 : Int32) (X : XT) (Y : YT) : Prop :=
  ((a1 < a2 → Q (-1) X Y) ∧ (¬ a1 < a2 → I18 a1 a2 0 X Y))
def BX10_fewest_18 (I11 : Int32 → Int32 → XT → YT → Prop) (I18 : Int32 → Int32 → Int32 → XT → YT → Prop) (Q : Int32 → XT → YT → Prop) (a1 : Int32) (a2 : Int32) (a3 : Int32) (X : XT) (Y : YT) : Prop :=
  (((1 <<< (a1 &&& 31)) ≤ a3 → ∀ w2 : Int32, w2 = a2 + 1 → I11 a1 w2 X Y) ∧ (¬ (1 <<< (a1 &&& 31)) ≤ a3 → PX10_ones a3 X Y (fun r4 X5 Y6 => ((¬ r4 = a2 → ∀ w9 : Int32, w9 = a3 + 1 → I18 a1 a2 w9 X5 Y6) ∧ (r4 = a2 → PX10_isSafe a3 X5 Y6 (fun r11 X12 Y13 => ((r11 = 0 → ∀ w16 : Int32, w16 = a3 + 1 → I18 a1 a2 w16 X12 Y13) ∧ (¬ r11 = 0 → ((¬ r11 = 1 → Q r11 X12 Y13) ∧ (r11 = 1 → Q a3 X12 Y13))))))))))
def BX10_fewest_s (I11 : Int32 → Int32 → XT → YT → Prop) (I18 : Int32 → Int32 → Int32 → XT → YT → Prop) (Q : Int32 → XT → YT → Prop) (X : XT) (Y : YT) : Prop :=
  PX10_findOpen X Y (fun X2 Y3 => ∀ w5 : Int32, w5 = (X2 48 46) → I11 w5 0 X2 Y3)
def PX10_fewest (X : XT) (Y : YT) (Q : Int32 → XT → YT → Prop) : Prop := ∀ (I11 : Int32 → Int32 → XT → YT → Prop) (I18 : Int32 → Int32 → Int32 → XT → YT → Prop), (∀ (a1 : Int32) (a2 : Int32) (X : XT) (Y : YT), BX10_fewest_11 I11 I18 Q a1 a2 X Y → I11 a1 a2 X Y) → (∀ (a1 : Int32) (a2 : Int32) (a3 : Int32) (X : XT) (Y : YT), BX10_fewest_18 I11 I18 Q a1 a2 a3 X Y → I18 a1 a2 a3 X Y) → BX10_fewest_s I11 I18 Q X Y
set_option maxHeartbeats 4000000 in
set_option maxRecDepth 100000 in
theorem kX10_fewest_11 {Γ : Cxt} {Q : Int32 → XT → YT → Prop} (O : Ok Γ RX10 cX10_fewest 5 { frames := 6, cells := 0, slots := 0, locals := 137 }) (r : Ret Γ (some .int) (qI Q)) {I11 : Int32 → Int32 → XT → YT → Prop} {I18 : Int32 → Int32 → Int32 → XT → YT → Prop} (e11 : ∀ (a1 : Int32) (a2 : Int32) (X : XT) (Y : YT), I11 a1 a2 X Y → V Γ 11 [(0, .ref 48), (1, .int a1), (2, .int a2)] [] X Y) (e18 : ∀ (a1 : Int32) (a2 : Int32) (a3 : Int32) (X : XT) (Y : YT), I18 a1 a2 a3 X Y → V Γ 18 [(0, .ref 48), (1, .int a1), (2, .int a2), (3, .int a3)] [] X Y) {a1 : Int32} {a2 : Int32} {X : XT} {Y : YT} (h : BX10_fewest_11 I11 I18 Q a1 a2 X Y) : V Γ 11 [(0, .ref 48), (1, .int a1), (2, .int a2)] [] X Y := by
  refine v_iload_n O dX10_fewest_11 rfl 2 rfl ?_
  refine v_iload_n O dX10_fewest_12 rfl 1 rfl ?_
  refine v_icmp_gt (tgt := 70) O dX10_fewest_13 (by decide) (fun g1 => ?_) (fun g1 => ?_)
  · refine v_iconst O dX10_fewest_70 kc_m1 ?_
    exact v_iret O r dX10_fewest_71 ⟨_, rfl, (h.1 g1)⟩
  · refine v_iconst O dX10_fewest_16 kc_0 ?_
    refine v_istore_n (lv' := [(3, .int 0), (0, .ref 48), (1, .int a1), (2, .int a2)]) O dX10_fewest_17 rfl (by decide) rfl ?_
    exact v_loc [1, 2, 3, 0] rfl (e18 a1 a2 0 X Y (h.2 g1))
set_option maxHeartbeats 4000000 in
set_option maxRecDepth 100000 in
theorem kX10_fewest_18 {Γ : Cxt} {Q : Int32 → XT → YT → Prop} (O : Ok Γ RX10 cX10_fewest 5 { frames := 6, cells := 0, slots := 0, locals := 137 }) (r : Ret Γ (some .int) (qI Q)) {I11 : Int32 → Int32 → XT → YT → Prop} {I18 : Int32 → Int32 → Int32 → XT → YT → Prop} (e11 : ∀ (a1 : Int32) (a2 : Int32) (X : XT) (Y : YT), I11 a1 a2 X Y → V Γ 11 [(0, .ref 48), (1, .int a1), (2, .int a2)] [] X Y) (e18 : ∀ (a1 : Int32) (a2 : Int32) (a3 : Int32) (X : XT) (Y : YT), I18 a1 a2 a3 X Y → V Γ 18 [(0, .ref 48), (1, .int a1), (2, .int a2), (3, .int a3)] [] X Y) {a1 : Int32} {a2 : Int32} {a3 : Int32} {X : XT} {Y : YT} (h : BX10_fewest_18 I11 I18 Q a1 a2 a3 X Y) : V Γ 18 [(0, .ref 48), (1, .int a1), (2, .int a2), (3, .int a3)] [] X Y := by
  refine v_iload_n O dX10_fewest_18 rfl 3 rfl ?_
  refine v_iconst O dX10_fewest_19 kc_1 ?_
  refine v_iload_n O dX10_fewest_20 rfl 1 rfl ?_
  refine v_ishl O dX10_fewest_21 ?_
  refine v_icmp_ge (tgt := 64) O dX10_fewest_22 (by decide) (fun g1 => ?_) (fun g1 => ?_)
  · obtain ⟨w2, hw3⟩ : ∃ y : Int32, y = a2 + 1 := ⟨_, rfl⟩
    refine v_iinc (v := w2) (j := 2) O dX10_fewest_64 rfl (by rw [hw3]; exact congrArg _ kc_1) (by decide) (lv' := [(2, .int w2), (0, .ref 48), (1, .int a1), (3, .int a3)]) rfl ?_
    refine v_goto O dX10_fewest_67 (tgt := 11) (by decide) ?_
    exact v_loc [1, 2, 0] rfl (e11 a1 w2 X Y ((h.1 g1) w2 hw3))
  · refine v_iload_n O dX10_fewest_25 rfl 3 rfl ?_
    refine v_callS (rm' := { frames := 0, cells := 0, slots := 0, locals := 0 }) (As := [.int a3]) (st := []) O dX10_fewest_26 ci_X10_ones ml_X10_152 ms_X10_ones ⟨rfl, rfl, (by decide), (by decide)⟩ rfl (Nat.le_of_ble_eq_true rfl) rfl (mX10_ones (h.2 g1)) (k_I (fun r4 X5 Y6 h7 => ?_))
    refine v_iload_n O dX10_fewest_29 rfl 2 rfl ?_
    refine v_icmp_ne (tgt := 58) O dX10_fewest_30 (by decide) (fun g8 => ?_) (fun g8 => ?_)
    · obtain ⟨w9, hw10⟩ : ∃ y : Int32, y = a3 + 1 := ⟨_, rfl⟩
      refine v_iinc (v := w9) (j := 3) O dX10_fewest_58 rfl (by rw [hw10]; exact congrArg _ kc_1) (by decide) (lv' := [(3, .int w9), (0, .ref 48), (1, .int a1), (2, .int a2)]) rfl ?_
      refine v_goto O dX10_fewest_61 (tgt := 18) (by decide) ?_
      exact v_loc [1, 2, 3, 0] rfl (e18 a1 a2 w9 X5 Y6 ((h7.1 g8) w9 hw10))
    · refine v_aload_n O dX10_fewest_33 rfl 0 rfl ?_
      refine v_iload_n O dX10_fewest_34 rfl 3 rfl ?_
      refine v_callV (rm' := { frames := 5, cells := 0, slots := 0, locals := 116 }) (As := [.int a3]) (st := []) O dX10_fewest_35 ci_X10_isSafe ml_X10_341 mi_X10_isSafe sh_48 rfl ⟨rfl, rfl, (by decide), (by decide)⟩ rfl (Nat.le_of_ble_eq_true rfl) rfl (mX10_isSafe (h7.2 g8)) (k_I (fun r11 X12 Y13 h14 => ?_))
      refine v_istore (lv' := [(4, .int r11), (0, .ref 48), (1, .int a1), (2, .int a2), (3, .int a3)]) O dX10_fewest_38 (by decide) rfl ?_
      refine v_iload O dX10_fewest_40 0 rfl ?_
      refine v_if_eq (tgt := 58) O dX10_fewest_42 (by decide) (fun g15 => ?_) (fun g15 => ?_)
      · obtain ⟨w16, hw17⟩ : ∃ y : Int32, y = a3 + 1 := ⟨_, rfl⟩
        refine v_iinc (v := w16) (j := 4) O dX10_fewest_58 rfl (by rw [hw17]; exact congrArg _ kc_1) (by decide) (lv' := [(3, .int w16), (4, .int r11), (0, .ref 48), (1, .int a1), (2, .int a2)]) rfl ?_
        refine v_goto O dX10_fewest_61 (tgt := 18) (by decide) ?_
        exact v_loc [2, 3, 4, 0] rfl (e18 a1 a2 w16 X12 Y13 ((h14.1 g15) w16 hw17))
      · refine v_iload O dX10_fewest_45 0 rfl ?_
        refine v_iconst O dX10_fewest_47 kc_1 ?_
        refine v_icmp_ne (tgt := 55) O dX10_fewest_48 (by decide) (fun g18 => ?_) (fun g18 => ?_)
        · refine v_iload O dX10_fewest_55 0 rfl ?_
          exact v_iret O r dX10_fewest_57 ⟨_, rfl, ((h14.2 g15).1 g18)⟩
        · refine v_iload_n O dX10_fewest_51 rfl 4 rfl ?_
          refine v_goto O dX10_fewest_52 (tgt := 57) (by decide) ?_
          exact v_iret O r dX10_fewest_57 ⟨_, rfl, ((h14.2 g15).2 g18)⟩
set_option maxHeartbeats 4000000 in
set_option maxRecDepth 100000 in
theorem kX10_fewest_s {Γ : Cxt} {Q : Int32 → XT → YT → Prop} (O : Ok Γ RX10 cX10_fewest 5 { frames := 6, cells := 0, slots := 0, locals := 137 }) (r : Ret Γ (some .int) (qI Q)) {I11 : Int32 → Int32 → XT → YT → Prop} {I18 : Int32 → Int32 → Int32 → XT → YT → Prop} (e11 : ∀ (a1 : Int32) (a2 : Int32) (X : XT) (Y : YT), I11 a1 a2 X Y → V Γ 11 [(0, .ref 48), (1, .int a1), (2, .int a2)] [] X Y) (e18 : ∀ (a1 : Int32) (a2 : Int32) (a3 : Int32) (X : XT) (Y : YT), I18 a1 a2 a3 X Y → V Γ 18 [(0, .ref 48), (1, .int a1), (2, .int a2), (3, .int a3)] [] X Y) {X : XT} {Y : YT} (h : BX10_fewest_s I11 I18 Q X Y) : V Γ 0 [(0, .ref 48)] [] X Y := by
  refine v_aload_n O dX10_fewest_0 rfl 0 rfl ?_
  refine v_callV (rm' := { frames := 0, cells := 0, slots := 0, locals := 0 }) (As := []) (st := []) O dX10_fewest_1 ci_X10_findOpen ml_X10_284 mi_X10_findOpen sh_48 rfl ⟨rfl, rfl, (by decide), (by decide)⟩ rfl (Nat.le_of_ble_eq_true rfl) rfl (mX10_findOpen h) (k_V (fun X2 Y3 h4 => ?_))
  refine v_aload_n O dX10_fewest_4 rfl 0 rfl ?_
  refine v_get O dX10_fewest_5 fo_X10_234 sh_48 rfl rfl ?_
  refine v_topi (fun w5 hw6 => ?_)
  refine v_istore_n (lv' := [(1, .int w5), (0, .ref 48)]) O dX10_fewest_8 rfl (by decide) rfl ?_
  refine v_iconst O dX10_fewest_9 kc_0 ?_
  refine v_istore_n (lv' := [(2, .int 0), (1, .int w5), (0, .ref 48)]) O dX10_fewest_10 rfl (by decide) rfl ?_
  exact v_loc [2, 1, 0] rfl (e11 w5 0 X2 Y3 (h4 w5 hw6))
set_option maxRecDepth 100000 in
theorem mX10_fewest {Γ : Cxt} {X : XT} {Y : YT} {Q : Int32 → XT → YT → Prop} (h : PX10_fewest X Y Q) : MT Γ yX10_fewest (.code yX10_fewest cX10_fewest 5 (some .int) :: wl) { frames := 6, cells := 0, slots := 0, locals := 137 } [.ref 48] X Y (qI Q) :=
  mt_of (by decide) (Nat.le_of_ble_eq_true rfl) (fun Γ _ O r => kX10_fewest_s O r (fun _ _ _ _ g => g) (fun _ _ _ _ _ g => g) (h (fun a1 a2 X Y => V Γ 11 [(0, .ref 48), (1, .int a1), (2, .int a2)] [] X Y) (fun a1 a2 a3 X Y => V Γ 18 [(0, .ref 48), (1, .int a1), (2, .int a2), (3, .int a3)] [] X Y) (fun _ _ _ _ g => kX10_fewest_11 O r (fun _ _ _ _ g => g) (fun _ _ _ _ _ g => g) g) (fun _ _ _ _ _ g => kX10_fewest_18 O r (fun _ _ _ _ g => g) (fun _ _ _ _ _ g => g) g)))
theorem dX10_wider_0 : decode cX10_wider 0 = .ok (.aload_n 0, 1) := by decide +kernel
theorem dX10_wider_1 : decode cX10_wider 1 = .ok (.getfield 146, 3) := by decide +kernel
theorem dX10_wider_4 : decode cX10_wider 4 = .ok (.istore_n 1, 1) := by decide +kernel
theorem dX10_wider_5 : decode cX10_wider 5 = .ok (.iload_n 1, 1) := by decide +kernel
theorem dX10_wider_6 : decode cX10_wider 6 = .ok (.bipush 10, 2) := by decide +kernel
theorem dX10_wider_8 : decode cX10_wider 8 = .ok (.if_icmp .ge 38, 3) := by decide +kernel
theorem dX10_wider_11 : decode cX10_wider 11 = .ok (.aload_n 0, 1) := by decide +kernel
theorem dX10_wider_12 : decode cX10_wider 12 = .ok (.invokevirtual 296, 3) := by decide +kernel
theorem dX10_wider_15 : decode cX10_wider 15 = .ok (.aload_n 0, 1) := by decide +kernel
theorem dX10_wider_16 : decode cX10_wider 16 = .ok (.iload_n 1, 1) := by decide +kernel
theorem dX10_wider_17 : decode cX10_wider 17 = .ok (.putfield 246, 3) := by decide +kernel
theorem dX10_wider_20 : decode cX10_wider 20 = .ok (.aload_n 0, 1) := by decide +kernel
theorem dX10_wider_21 : decode cX10_wider 21 = .ok (.invokevirtual 299, 3) := by decide +kernel
theorem dX10_wider_24 : decode cX10_wider 24 = .ok (.ifCond .ne 7, 3) := by decide +kernel
theorem dX10_wider_27 : decode cX10_wider 27 = .ok (.sipush (-1005), 3) := by decide +kernel
theorem dX10_wider_30 : decode cX10_wider 30 = .ok (.ireturn, 1) := by decide +kernel
theorem dX10_wider_31 : decode cX10_wider 31 = .ok (.aload_n 0, 1) := by decide +kernel
theorem dX10_wider_32 : decode cX10_wider 32 = .ok (.invokevirtual 332, 3) := by decide +kernel
theorem dX10_wider_35 : decode cX10_wider 35 = .ok (.ifCond .ne 5, 3) := by decide +kernel
theorem dX10_wider_38 : decode cX10_wider 38 = .ok (.iload_n 1, 1) := by decide +kernel
theorem dX10_wider_39 : decode cX10_wider 39 = .ok (.ireturn, 1) := by decide +kernel
theorem dX10_wider_40 : decode cX10_wider 40 = .ok (.iinc 1 1, 3) := by decide +kernel
theorem dX10_wider_43 : decode cX10_wider 43 = .ok (.goto (-38), 3) := by decide +kernel
theorem dX10_wider_46 : decode cX10_wider 46 = .ok (.iconst (-1), 1) := by decide +kernel
theorem dX10_wider_47 : decode cX10_wider 47 = .ok (.ireturn, 1) := by decide +kernel
def BX10_wider_5 (I5 : Int32 → XT → YT → Prop) (Q : Int32 → XT → YT → Prop) (a1 : Int32) (X : XT) (Y : YT) : Prop :=
  ((10 ≤ a1 → Q (-1) X Y) ∧ (¬ 10 ≤ a1 → PX10_begin X Y (fun X3 Y4 => PX10_goThrough (sX X3 48 41 a1) Y4 (fun r6 X7 Y8 => ((¬ r6 = 0 → PX10_betrayedNow X7 Y8 (fun r11 X12 Y13 => ((¬ r11 = 0 → ∀ w16 : Int32, w16 = a1 + 1 → I5 w16 X12 Y13) ∧ (r11 = 0 → Q a1 X12 Y13)))) ∧ (r6 = 0 → Q (-1005) X7 Y8))))))
def BX10_wider_s (I5 : Int32 → XT → YT → Prop) (Q : Int32 → XT → YT → Prop) (X : XT) (Y : YT) : Prop :=
  ∀ w1 : Int32, w1 = (X 48 9) → I5 w1 X Y
def PX10_wider (X : XT) (Y : YT) (Q : Int32 → XT → YT → Prop) : Prop := ∀ (I5 : Int32 → XT → YT → Prop), (∀ (a1 : Int32) (X : XT) (Y : YT), BX10_wider_5 I5 Q a1 X Y → I5 a1 X Y) → BX10_wider_s I5 Q X Y
set_option maxHeartbeats 4000000 in
set_option maxRecDepth 100000 in
theorem kX10_wider_5 {Γ : Cxt} {Q : Int32 → XT → YT → Prop} (O : Ok Γ RX10 cX10_wider 2 { frames := 5, cells := 0, slots := 0, locals := 116 }) (r : Ret Γ (some .int) (qI Q)) {I5 : Int32 → XT → YT → Prop} (e5 : ∀ (a1 : Int32) (X : XT) (Y : YT), I5 a1 X Y → V Γ 5 [(0, .ref 48), (1, .int a1)] [] X Y) {a1 : Int32} {X : XT} {Y : YT} (h : BX10_wider_5 I5 Q a1 X Y) : V Γ 5 [(0, .ref 48), (1, .int a1)] [] X Y := by
  refine v_iload_n O dX10_wider_5 rfl 1 rfl ?_
  refine v_bipush O dX10_wider_6 kb_10 ?_
  refine v_icmp_ge (tgt := 46) O dX10_wider_8 (by decide) (fun g1 => ?_) (fun g1 => ?_)
  · refine v_iconst O dX10_wider_46 kc_m1 ?_
    exact v_iret O r dX10_wider_47 ⟨_, rfl, (h.1 g1)⟩
  · refine v_aload_n O dX10_wider_11 rfl 0 rfl ?_
    refine v_callV (rm' := { frames := 0, cells := 0, slots := 0, locals := 0 }) (As := []) (st := []) O dX10_wider_12 ci_X10_begin ml_X10_296 mi_X10_begin sh_48 rfl ⟨rfl, rfl, (by decide), (by decide)⟩ rfl (Nat.le_of_ble_eq_true rfl) rfl (mX10_begin (h.2 g1)) (k_V (fun X3 Y4 h5 => ?_))
    refine v_aload_n O dX10_wider_15 rfl 0 rfl ?_
    refine v_iload_n O dX10_wider_16 rfl 1 rfl ?_
    refine v_putI O dX10_wider_17 fo_X10_246 fp_10_41 sh_48 rfl rfl rfl ?_
    refine v_aload_n O dX10_wider_20 rfl 0 rfl ?_
    refine v_callV (rm' := { frames := 4, cells := 0, slots := 0, locals := 94 }) (As := []) (st := []) O dX10_wider_21 ci_X10_goThrough ml_X10_299 mi_X10_goThrough sh_48 rfl ⟨rfl, rfl, (by decide), (by decide)⟩ rfl (Nat.le_of_ble_eq_true rfl) rfl (mX10_goThrough h5) (k_I (fun r6 X7 Y8 h9 => ?_))
    refine v_if_ne (tgt := 31) O dX10_wider_24 (by decide) (fun g10 => ?_) (fun g10 => ?_)
    · refine v_aload_n O dX10_wider_31 rfl 0 rfl ?_
      refine v_callV (rm' := { frames := 1, cells := 0, slots := 0, locals := 22 }) (As := []) (st := []) O dX10_wider_32 ci_X10_betrayedNow ml_X10_332 mi_X10_betrayedNow sh_48 rfl ⟨rfl, rfl, (by decide), (by decide)⟩ rfl (Nat.le_of_ble_eq_true rfl) rfl (mX10_betrayedNow (h9.1 g10)) (k_I (fun r11 X12 Y13 h14 => ?_))
      refine v_if_ne (tgt := 40) O dX10_wider_35 (by decide) (fun g15 => ?_) (fun g15 => ?_)
      · obtain ⟨w16, hw17⟩ : ∃ y : Int32, y = a1 + 1 := ⟨_, rfl⟩
        refine v_iinc (v := w16) (j := 1) O dX10_wider_40 rfl (by rw [hw17]; exact congrArg _ kc_1) (by decide) (lv' := [(1, .int w16), (0, .ref 48)]) rfl ?_
        refine v_goto O dX10_wider_43 (tgt := 5) (by decide) ?_
        exact v_loc [1, 0] rfl (e5 w16 X12 Y13 ((h14.1 g15) w16 hw17))
      · refine v_iload_n O dX10_wider_38 rfl 1 rfl ?_
        exact v_iret O r dX10_wider_39 ⟨_, rfl, (h14.2 g15)⟩
    · refine v_sipush O dX10_wider_27 ks_m1005 ?_
      exact v_iret O r dX10_wider_30 ⟨_, rfl, (h9.2 g10)⟩
set_option maxHeartbeats 4000000 in
set_option maxRecDepth 100000 in
theorem kX10_wider_s {Γ : Cxt} {Q : Int32 → XT → YT → Prop} (O : Ok Γ RX10 cX10_wider 2 { frames := 5, cells := 0, slots := 0, locals := 116 }) (r : Ret Γ (some .int) (qI Q)) {I5 : Int32 → XT → YT → Prop} (e5 : ∀ (a1 : Int32) (X : XT) (Y : YT), I5 a1 X Y → V Γ 5 [(0, .ref 48), (1, .int a1)] [] X Y) {X : XT} {Y : YT} (h : BX10_wider_s I5 Q X Y) : V Γ 0 [(0, .ref 48)] [] X Y := by
  refine v_aload_n O dX10_wider_0 rfl 0 rfl ?_
  refine v_get O dX10_wider_1 fo_X10_146 sh_48 rfl rfl ?_
  refine v_topi (fun w1 hw2 => ?_)
  refine v_istore_n (lv' := [(1, .int w1), (0, .ref 48)]) O dX10_wider_4 rfl (by decide) rfl ?_
  exact v_loc [1, 0] rfl (e5 w1 X Y (h w1 hw2))
set_option maxRecDepth 100000 in
theorem mX10_wider {Γ : Cxt} {X : XT} {Y : YT} {Q : Int32 → XT → YT → Prop} (h : PX10_wider X Y Q) : MT Γ yX10_wider (.code yX10_wider cX10_wider 2 (some .int) :: wl) { frames := 5, cells := 0, slots := 0, locals := 116 } [.ref 48] X Y (qI Q) :=
  mt_of (by decide) (Nat.le_of_ble_eq_true rfl) (fun Γ _ O r => kX10_wider_s O r (fun _ _ _ g => g) (h (fun a1 X Y => V Γ 5 [(0, .ref 48), (1, .int a1)] [] X Y) (fun _ _ _ g => kX10_wider_5 O r (fun _ _ _ g => g) g)))
