theorem dX9_areReaders_0 : decode cX9_areReaders 0 = .ok (.iload_n 0, 1) := by decide +kernel
theorem dX9_areReaders_1 : decode cX9_areReaders 1 = .ok (.iconst 0, 1) := by decide +kernel
theorem dX9_areReaders_2 : decode cX9_areReaders 2 = .ok (.iconst 4, 1) := by decide +kernel
theorem dX9_areReaders_3 : decode cX9_areReaders 3 = .ok (.invokestatic 104, 3) := by decide +kernel
theorem dX9_areReaders_6 : decode cX9_areReaders 6 = .ok (.invokestatic 81, 3) := by decide +kernel
theorem dX9_areReaders_9 : decode cX9_areReaders 9 = .ok (.ireturn, 1) := by decide +kernel
def BX9_areReaders_s (Q : Int32 → XT → YT → Prop) (p0 : Int32) (X : XT) (Y : YT) : Prop :=
  PX9_allBelow 4 X Y (fun r1 X2 Y3 => PX9_within p0 0 r1 X2 Y3 (fun r5 X6 Y7 => narrow .boolean (.int r5) = .int r5 ∧ Q r5 X6 Y7))
def PX9_areReaders (p0 : Int32) (X : XT) (Y : YT) (Q : Int32 → XT → YT → Prop) : Prop :=  BX9_areReaders_s Q p0 X Y
set_option maxHeartbeats 4000000 in
set_option maxRecDepth 100000 in
theorem kX9_areReaders_s {Γ : Cxt} {Q : Int32 → XT → YT → Prop} (O : Ok Γ RX9 cX9_areReaders 1 { frames := 1, cells := 0, slots := 0, locals := 22 }) (r : Ret Γ (some .boolean) (qI Q)) {p0 : Int32} {X : XT} {Y : YT} (h : BX9_areReaders_s Q p0 X Y) : V Γ 0 [(0, .int p0)] [] X Y := by
  refine v_iload_n O dX9_areReaders_0 rfl 0 rfl ?_
  refine v_iconst O dX9_areReaders_1 kc_0 ?_
  refine v_iconst O dX9_areReaders_2 kc_4 ?_
  refine v_callS (rm' := { frames := 0, cells := 0, slots := 0, locals := 0 }) (As := [.int 4]) (st := [.int 0, .int p0]) O dX9_areReaders_3 ci_X9_allBelow ml_X9_104 ms_X9_allBelow ⟨rfl, rfl, (by decide), (by decide)⟩ rfl (Nat.le_of_ble_eq_true rfl) rfl (mX9_allBelow h) (k_I (fun r1 X2 Y3 h4 => ?_))
  refine v_callS (rm' := { frames := 0, cells := 0, slots := 0, locals := 0 }) (As := [.int p0, .int 0, .int r1]) (st := []) O dX9_areReaders_6 ci_X9_within ml_X9_81 ms_X9_within ⟨rfl, rfl, (by decide), (by decide)⟩ rfl (Nat.le_of_ble_eq_true rfl) rfl (mX9_within h4) (k_I (fun r5 X6 Y7 h8 => ?_))
  exact v_zret O r dX9_areReaders_9 h8.1 ⟨_, rfl, h8.2⟩
set_option maxRecDepth 100000 in
theorem mX9_areReaders {Γ : Cxt} {p0 : Int32} {X : XT} {Y : YT} {Q : Int32 → XT → YT → Prop} (h : PX9_areReaders p0 X Y Q) : MT Γ yX9_areReaders (.code yX9_areReaders cX9_areReaders 1 (some .boolean) :: wl) { frames := 1, cells := 0, slots := 0, locals := 22 } [.int p0] X Y (qI Q) :=
  mt_of (by decide) (Nat.le_of_ble_eq_true rfl) (fun Γ _ O r => kX9_areReaders_s O r  (h ))
theorem dX9_together_0 : decode cX9_together 0 = .ok (.iload_n 1, 1) := by decide +kernel
theorem dX9_together_1 : decode cX9_together 1 = .ok (.invokestatic 263, 3) := by decide +kernel
theorem dX9_together_4 : decode cX9_together 4 = .ok (.ifCond .eq 11, 3) := by decide +kernel
theorem dX9_together_7 : decode cX9_together 7 = .ok (.aload_n 0, 1) := by decide +kernel
theorem dX9_together_8 : decode cX9_together 8 = .ok (.iload_n 1, 1) := by decide +kernel
theorem dX9_together_9 : decode cX9_together 9 = .ok (.invokevirtual 191, 3) := by decide +kernel
theorem dX9_together_12 : decode cX9_together 12 = .ok (.goto 6, 3) := by decide +kernel
theorem dX9_together_15 : decode cX9_together 15 = .ok (.sipush (-1001), 3) := by decide +kernel
theorem dX9_together_18 : decode cX9_together 18 = .ok (.ireturn, 1) := by decide +kernel
def BX9_together_s (Q : Int32 → XT → YT → Prop) (p0 : Int32) (X : XT) (Y : YT) : Prop :=
  PX9_areReaders p0 X Y (fun r1 X2 Y3 => ((r1 = 0 → Q (-1001) X2 Y3) ∧ (¬ r1 = 0 → PX9_countReadings p0 X2 Y3 (fun r6 X7 Y8 => Q r6 X7 Y8))))
def PX9_together (p0 : Int32) (X : XT) (Y : YT) (Q : Int32 → XT → YT → Prop) : Prop :=  BX9_together_s Q p0 X Y
set_option maxHeartbeats 4000000 in
set_option maxRecDepth 100000 in
theorem kX9_together_s {Γ : Cxt} {Q : Int32 → XT → YT → Prop} (O : Ok Γ RX9 cX9_together 2 { frames := 6, cells := 0, slots := 0, locals := 137 }) (r : Ret Γ (some .int) (qI Q)) {p0 : Int32} {X : XT} {Y : YT} (h : BX9_together_s Q p0 X Y) : V Γ 0 [(0, .ref 0), (1, .int p0)] [] X Y := by
  refine v_iload_n O dX9_together_0 rfl 1 rfl ?_
  refine v_callS (rm' := { frames := 1, cells := 0, slots := 0, locals := 22 }) (As := [.int p0]) (st := []) O dX9_together_1 ci_X9_areReaders ml_X9_263 ms_X9_areReaders ⟨rfl, rfl, (by decide), (by decide)⟩ rfl (Nat.le_of_ble_eq_true rfl) rfl (mX9_areReaders h) (k_I (fun r1 X2 Y3 h4 => ?_))
  refine v_if_eq (tgt := 15) O dX9_together_4 (by decide) (fun g5 => ?_) (fun g5 => ?_)
  · refine v_sipush O dX9_together_15 ks_m1001 ?_
    exact v_iret O r dX9_together_18 ⟨_, rfl, (h4.1 g5)⟩
  · refine v_aload_n O dX9_together_7 rfl 0 rfl ?_
    refine v_iload_n O dX9_together_8 rfl 1 rfl ?_
    refine v_callV (rm' := { frames := 5, cells := 0, slots := 0, locals := 116 }) (As := [.int p0]) (st := []) O dX9_together_9 ci_X9_countReadings ml_X9_191 mi_X9_countReadings sh_0 rfl ⟨rfl, rfl, (by decide), (by decide)⟩ rfl (Nat.le_of_ble_eq_true rfl) rfl (mX9_countReadings (h4.2 g5)) (k_I (fun r6 X7 Y8 h9 => ?_))
    refine v_goto O dX9_together_12 (tgt := 18) (by decide) ?_
    exact v_iret O r dX9_together_18 ⟨_, rfl, h9⟩
set_option maxRecDepth 100000 in
theorem mX9_together {Γ : Cxt} {p0 : Int32} {X : XT} {Y : YT} {Q : Int32 → XT → YT → Prop} (h : PX9_together p0 X Y Q) : MT Γ yX9_together (.code yX9_together cX9_together 2 (some .int) :: wl) { frames := 6, cells := 0, slots := 0, locals := 137 } [.ref 0, .int p0] X Y (qI Q) :=
  mt_of (by decide) (Nat.le_of_ble_eq_true rfl) (fun Γ _ O r => kX9_together_s O r  (h ))
theorem dX9_sees_0 : decode cX9_sees 0 = .ok (.iload_n 1, 1) := by decide +kernel
theorem dX9_sees_1 : decode cX9_sees 1 = .ok (.invokestatic 263, 3) := by decide +kernel
theorem dX9_sees_4 : decode cX9_sees 4 = .ok (.ifCond .eq 23, 3) := by decide +kernel
theorem dX9_sees_7 : decode cX9_sees 7 = .ok (.aload_n 0, 1) := by decide +kernel
theorem dX9_sees_8 : decode cX9_sees 8 = .ok (.getfield 26, 3) := by decide +kernel
theorem dX9_sees_11 : decode cX9_sees 11 = .ok (.iload_n 2, 1) := by decide +kernel
theorem dX9_sees_12 : decode cX9_sees 12 = .ok (.invokevirtual 177, 3) := by decide +kernel
theorem dX9_sees_15 : decode cX9_sees 15 = .ok (.ifCond .eq 12, 3) := by decide +kernel
theorem dX9_sees_18 : decode cX9_sees 18 = .ok (.aload_n 0, 1) := by decide +kernel
theorem dX9_sees_19 : decode cX9_sees 19 = .ok (.iload_n 1, 1) := by decide +kernel
theorem dX9_sees_20 : decode cX9_sees 20 = .ok (.iload_n 2, 1) := by decide +kernel
theorem dX9_sees_21 : decode cX9_sees 21 = .ok (.invokevirtual 213, 3) := by decide +kernel
theorem dX9_sees_24 : decode cX9_sees 24 = .ok (.goto 6, 3) := by decide +kernel
theorem dX9_sees_27 : decode cX9_sees 27 = .ok (.sipush (-1001), 3) := by decide +kernel
theorem dX9_sees_30 : decode cX9_sees 30 = .ok (.ireturn, 1) := by decide +kernel
def BX9_sees_s (Q : Int32 → XT → YT → Prop) (p0 : Int32) (p1 : Int32) (X : XT) (Y : YT) : Prop :=
  PX9_areReaders p0 X Y (fun r1 X2 Y3 => ((r1 = 0 → Q (-1001) X2 Y3) ∧ (¬ r1 = 0 → PX3_isBar p1 X2 Y3 (fun r6 X7 Y8 => ((r6 = 0 → Q (-1001) X7 Y8) ∧ (¬ r6 = 0 → PX9_mayToReaders p0 p1 X7 Y8 (fun r11 X12 Y13 => Q r11 X12 Y13)))))))
def PX9_sees (p0 : Int32) (p1 : Int32) (X : XT) (Y : YT) (Q : Int32 → XT → YT → Prop) : Prop :=  BX9_sees_s Q p0 p1 X Y
set_option maxHeartbeats 4000000 in
set_option maxRecDepth 100000 in
theorem kX9_sees_s {Γ : Cxt} {Q : Int32 → XT → YT → Prop} (O : Ok Γ RX9 cX9_sees 3 { frames := 6, cells := 0, slots := 0, locals := 138 }) (r : Ret Γ (some .int) (qI Q)) {p0 : Int32} {p1 : Int32} {X : XT} {Y : YT} (h : BX9_sees_s Q p0 p1 X Y) : V Γ 0 [(0, .ref 0), (1, .int p0), (2, .int p1)] [] X Y := by
  refine v_iload_n O dX9_sees_0 rfl 1 rfl ?_
  refine v_callS (rm' := { frames := 1, cells := 0, slots := 0, locals := 22 }) (As := [.int p0]) (st := []) O dX9_sees_1 ci_X9_areReaders ml_X9_263 ms_X9_areReaders ⟨rfl, rfl, (by decide), (by decide)⟩ rfl (Nat.le_of_ble_eq_true rfl) rfl (mX9_areReaders h) (k_I (fun r1 X2 Y3 h4 => ?_))
  refine v_if_eq (tgt := 27) O dX9_sees_4 (by decide) (fun g5 => ?_) (fun g5 => ?_)
  · refine v_sipush O dX9_sees_27 ks_m1001 ?_
    exact v_iret O r dX9_sees_30 ⟨_, rfl, (h4.1 g5)⟩
  · refine v_aload_n O dX9_sees_7 rfl 0 rfl ?_
    refine v_get O dX9_sees_8 fo_X9_26 sh_0 rfl rfl ?_
    refine v_iload_n O dX9_sees_11 rfl 2 rfl ?_
    refine v_callV (rm' := { frames := 1, cells := 0, slots := 0, locals := 22 }) (As := [.int p1]) (st := []) O dX9_sees_12 ci_X3_isBar ml_X9_177 mi_X3_isBar sh_13 rfl ⟨rfl, rfl, (by decide), (by decide)⟩ rfl (Nat.le_of_ble_eq_true rfl) rfl (mX3_isBar (h4.2 g5)) (k_I (fun r6 X7 Y8 h9 => ?_))
    refine v_if_eq (tgt := 27) O dX9_sees_15 (by decide) (fun g10 => ?_) (fun g10 => ?_)
    · refine v_sipush O dX9_sees_27 ks_m1001 ?_
      exact v_iret O r dX9_sees_30 ⟨_, rfl, (h9.1 g10)⟩
    · refine v_aload_n O dX9_sees_18 rfl 0 rfl ?_
      refine v_iload_n O dX9_sees_19 rfl 1 rfl ?_
      refine v_iload_n O dX9_sees_20 rfl 2 rfl ?_
      refine v_callV (rm' := { frames := 5, cells := 0, slots := 0, locals := 116 }) (As := [.int p0, .int p1]) (st := []) O dX9_sees_21 ci_X9_mayToReaders ml_X9_213 mi_X9_mayToReaders sh_0 rfl ⟨rfl, rfl, (by decide), (by decide)⟩ rfl (Nat.le_of_ble_eq_true rfl) rfl (mX9_mayToReaders (h9.2 g10)) (k_I (fun r11 X12 Y13 h14 => ?_))
      refine v_goto O dX9_sees_24 (tgt := 30) (by decide) ?_
      exact v_iret O r dX9_sees_30 ⟨_, rfl, h14⟩
set_option maxRecDepth 100000 in
theorem mX9_sees {Γ : Cxt} {p0 : Int32} {p1 : Int32} {X : XT} {Y : YT} {Q : Int32 → XT → YT → Prop} (h : PX9_sees p0 p1 X Y Q) : MT Γ yX9_sees (.code yX9_sees cX9_sees 3 (some .int) :: wl) { frames := 6, cells := 0, slots := 0, locals := 138 } [.ref 0, .int p0, .int p1] X Y (qI Q) :=
  mt_of (by decide) (Nat.le_of_ble_eq_true rfl) (fun Γ _ O r => kX9_sees_s O r  (h ))
theorem dX9_keep_0 : decode cX9_keep 0 = .ok (.aload_n 0, 1) := by decide +kernel
theorem dX9_keep_1 : decode cX9_keep 1 = .ok (.getfield 19, 3) := by decide +kernel
theorem dX9_keep_4 : decode cX9_keep 4 = .ok (.iload_n 1, 1) := by decide +kernel
theorem dX9_keep_5 : decode cX9_keep 5 = .ok (.invokevirtual 254, 3) := by decide +kernel
theorem dX9_keep_8 : decode cX9_keep 8 = .ok (.ifCond .ne 7, 3) := by decide +kernel
theorem dX9_keep_11 : decode cX9_keep 11 = .ok (.sipush (-1001), 3) := by decide +kernel
theorem dX9_keep_14 : decode cX9_keep 14 = .ok (.ireturn, 1) := by decide +kernel
theorem dX9_keep_15 : decode cX9_keep 15 = .ok (.aload_n 0, 1) := by decide +kernel
theorem dX9_keep_16 : decode cX9_keep 16 = .ok (.getfield 75, 3) := by decide +kernel
theorem dX9_keep_19 : decode cX9_keep 19 = .ok (.istore_n 2, 1) := by decide +kernel
theorem dX9_keep_20 : decode cX9_keep 20 = .ok (.aload_n 0, 1) := by decide +kernel
theorem dX9_keep_21 : decode cX9_keep 21 = .ok (.iload_n 1, 1) := by decide +kernel
theorem dX9_keep_22 : decode cX9_keep 22 = .ok (.putfield 75, 3) := by decide +kernel
theorem dX9_keep_25 : decode cX9_keep 25 = .ok (.iload_n 2, 1) := by decide +kernel
theorem dX9_keep_26 : decode cX9_keep 26 = .ok (.ireturn, 1) := by decide +kernel
def BX9_keep_s (Q : Int32 → XT → YT → Prop) (p0 : Int32) (X : XT) (Y : YT) : Prop :=
  PX1_areKnown p0 X Y (fun r1 X2 Y3 => ((¬ r1 = 0 → ∀ w6 : Int32, w6 = (X2 0 9) → Q w6 (sX X2 0 9 p0) Y3) ∧ (r1 = 0 → Q (-1001) X2 Y3)))
def PX9_keep (p0 : Int32) (X : XT) (Y : YT) (Q : Int32 → XT → YT → Prop) : Prop :=  BX9_keep_s Q p0 X Y
set_option maxHeartbeats 4000000 in
set_option maxRecDepth 100000 in
theorem kX9_keep_s {Γ : Cxt} {Q : Int32 → XT → YT → Prop} (O : Ok Γ RX9 cX9_keep 3 { frames := 2, cells := 0, slots := 0, locals := 41 }) (r : Ret Γ (some .int) (qI Q)) {p0 : Int32} {X : XT} {Y : YT} (h : BX9_keep_s Q p0 X Y) : V Γ 0 [(0, .ref 0), (1, .int p0)] [] X Y := by
  refine v_aload_n O dX9_keep_0 rfl 0 rfl ?_
  refine v_get O dX9_keep_1 fo_X9_19 sh_0 rfl rfl ?_
  refine v_iload_n O dX9_keep_4 rfl 1 rfl ?_
  refine v_callV (rm' := { frames := 1, cells := 0, slots := 0, locals := 20 }) (As := [.int p0]) (st := []) O dX9_keep_5 ci_X1_areKnown ml_X9_254 mi_X1_areKnown sh_3 rfl ⟨rfl, rfl, (by decide), (by decide)⟩ rfl (Nat.le_of_ble_eq_true rfl) rfl (mX1_areKnown h) (k_I (fun r1 X2 Y3 h4 => ?_))
  refine v_if_ne (tgt := 15) O dX9_keep_8 (by decide) (fun g5 => ?_) (fun g5 => ?_)
  · refine v_aload_n O dX9_keep_15 rfl 0 rfl ?_
    refine v_get O dX9_keep_16 fo_X9_75 sh_0 rfl rfl ?_
    refine v_topi (fun w6 hw7 => ?_)
    refine v_istore_n (lv' := [(2, .int w6), (0, .ref 0), (1, .int p0)]) O dX9_keep_19 rfl (by decide) rfl ?_
    refine v_aload_n O dX9_keep_20 rfl 1 rfl ?_
    refine v_iload_n O dX9_keep_21 rfl 2 rfl ?_
    refine v_putI O dX9_keep_22 fo_X9_75 fp_9_9 sh_0 rfl rfl rfl ?_
    refine v_iload_n O dX9_keep_25 rfl 0 rfl ?_
    exact v_iret O r dX9_keep_26 ⟨_, rfl, ((h4.1 g5) w6 hw7)⟩
  · refine v_sipush O dX9_keep_11 ks_m1001 ?_
    exact v_iret O r dX9_keep_14 ⟨_, rfl, (h4.2 g5)⟩
set_option maxRecDepth 100000 in
theorem mX9_keep {Γ : Cxt} {p0 : Int32} {X : XT} {Y : YT} {Q : Int32 → XT → YT → Prop} (h : PX9_keep p0 X Y Q) : MT Γ yX9_keep (.code yX9_keep cX9_keep 3 (some .int) :: wl) { frames := 2, cells := 0, slots := 0, locals := 41 } [.ref 0, .int p0] X Y (qI Q) :=
  mt_of (by decide) (Nat.le_of_ble_eq_true rfl) (fun Γ _ O r => kX9_keep_s O r  (h ))
theorem dX9_betrayedNow_0 : decode cX9_betrayedNow 0 = .ok (.aload_n 0, 1) := by decide +kernel
theorem dX9_betrayedNow_1 : decode cX9_betrayedNow 1 = .ok (.getfield 67, 3) := by decide +kernel
theorem dX9_betrayedNow_4 : decode cX9_betrayedNow 4 = .ok (.getfield 197, 3) := by decide +kernel
theorem dX9_betrayedNow_7 : decode cX9_betrayedNow 7 = .ok (.aload_n 0, 1) := by decide +kernel
theorem dX9_betrayedNow_8 : decode cX9_betrayedNow 8 = .ok (.getfield 49, 3) := by decide +kernel
theorem dX9_betrayedNow_11 : decode cX9_betrayedNow 11 = .ok (.getfield 250, 3) := by decide +kernel
theorem dX9_betrayedNow_14 : decode cX9_betrayedNow 14 = .ok (.invokevirtual 312, 3) := by decide +kernel
theorem dX9_betrayedNow_17 : decode cX9_betrayedNow 17 = .ok (.aload_n 0, 1) := by decide +kernel
theorem dX9_betrayedNow_18 : decode cX9_betrayedNow 18 = .ok (.getfield 75, 3) := by decide +kernel
theorem dX9_betrayedNow_21 : decode cX9_betrayedNow 21 = .ok (.iand, 1) := by decide +kernel
theorem dX9_betrayedNow_22 : decode cX9_betrayedNow 22 = .ok (.ireturn, 1) := by decide +kernel
def BX9_betrayedNow_s (Q : Int32 → XT → YT → Prop) (X : XT) (Y : YT) : Prop :=
  PX7_toldNames (X 31 3) X Y (fun r1 X2 Y3 => Q (r1 &&& (X2 0 9)) X2 Y3)
def PX9_betrayedNow (X : XT) (Y : YT) (Q : Int32 → XT → YT → Prop) : Prop :=  BX9_betrayedNow_s Q X Y
set_option maxHeartbeats 4000000 in
set_option maxRecDepth 100000 in
theorem kX9_betrayedNow_s {Γ : Cxt} {Q : Int32 → XT → YT → Prop} (O : Ok Γ RX9 cX9_betrayedNow 1 { frames := 2, cells := 0, slots := 0, locals := 43 }) (r : Ret Γ (some .int) (qI Q)) {X : XT} {Y : YT} (h : BX9_betrayedNow_s Q X Y) : V Γ 0 [(0, .ref 0)] [] X Y := by
  refine v_aload_n O dX9_betrayedNow_0 rfl 0 rfl ?_
  refine v_get O dX9_betrayedNow_1 fo_X9_67 sh_0 rfl rfl ?_
  refine v_get O dX9_betrayedNow_4 fo_X9_197 sh_39 rfl rfl ?_
  refine v_aload_n O dX9_betrayedNow_7 rfl 0 rfl ?_
  refine v_get O dX9_betrayedNow_8 fo_X9_49 sh_0 rfl rfl ?_
  refine v_get O dX9_betrayedNow_11 fo_X9_250 sh_31 rfl rfl ?_
  refine v_callV (rm' := { frames := 1, cells := 0, slots := 0, locals := 20 }) (As := [.int (X 31 3)]) (st := []) O dX9_betrayedNow_14 ci_X7_toldNames ml_X9_312 mi_X7_toldNames sh_40 rfl ⟨rfl, rfl, (by decide), (by decide)⟩ rfl (Nat.le_of_ble_eq_true rfl) rfl (mX7_toldNames h) (k_I (fun r1 X2 Y3 h4 => ?_))
  refine v_aload_n O dX9_betrayedNow_17 rfl 0 rfl ?_
  refine v_get O dX9_betrayedNow_18 fo_X9_75 sh_0 rfl rfl ?_
  refine v_iand O dX9_betrayedNow_21 ?_
  exact v_iret O r dX9_betrayedNow_22 ⟨_, rfl, h4⟩
set_option maxRecDepth 100000 in
theorem mX9_betrayedNow {Γ : Cxt} {X : XT} {Y : YT} {Q : Int32 → XT → YT → Prop} (h : PX9_betrayedNow X Y Q) : MT Γ yX9_betrayedNow (.code yX9_betrayedNow cX9_betrayedNow 1 (some .int) :: wl) { frames := 2, cells := 0, slots := 0, locals := 43 } [.ref 0] X Y (qI Q) :=
  mt_of (by decide) (Nat.le_of_ble_eq_true rfl) (fun Γ _ O r => kX9_betrayedNow_s O r  (h ))
theorem dX9_betrayed_0 : decode cX9_betrayed 0 = .ok (.iload_n 1, 1) := by decide +kernel
theorem dX9_betrayed_1 : decode cX9_betrayed 1 = .ok (.invokestatic 263, 3) := by decide +kernel
theorem dX9_betrayed_4 : decode cX9_betrayed 4 = .ok (.ifCond .ne 7, 3) := by decide +kernel
theorem dX9_betrayed_7 : decode cX9_betrayed 7 = .ok (.sipush (-1001), 3) := by decide +kernel
theorem dX9_betrayed_10 : decode cX9_betrayed 10 = .ok (.ireturn, 1) := by decide +kernel
theorem dX9_betrayed_11 : decode cX9_betrayed 11 = .ok (.aload_n 0, 1) := by decide +kernel
theorem dX9_betrayed_12 : decode cX9_betrayed 12 = .ok (.iload_n 1, 1) := by decide +kernel
theorem dX9_betrayed_13 : decode cX9_betrayed 13 = .ok (.sipush 3000, 3) := by decide +kernel
theorem dX9_betrayed_16 : decode cX9_betrayed 16 = .ok (.invokevirtual 194, 3) := by decide +kernel
theorem dX9_betrayed_19 : decode cX9_betrayed 19 = .ok (.aload_n 0, 1) := by decide +kernel
theorem dX9_betrayed_20 : decode cX9_betrayed 20 = .ok (.getfield 67, 3) := by decide +kernel
theorem dX9_betrayed_23 : decode cX9_betrayed 23 = .ok (.getfield 209, 3) := by decide +kernel
theorem dX9_betrayed_26 : decode cX9_betrayed 26 = .ok (.ifCond .eq 9, 3) := by decide +kernel
theorem dX9_betrayed_29 : decode cX9_betrayed 29 = .ok (.sipush (-1005), 3) := by decide +kernel
theorem dX9_betrayed_32 : decode cX9_betrayed 32 = .ok (.goto 7, 3) := by decide +kernel
theorem dX9_betrayed_35 : decode cX9_betrayed 35 = .ok (.aload_n 0, 1) := by decide +kernel
theorem dX9_betrayed_36 : decode cX9_betrayed 36 = .ok (.invokevirtual 266, 3) := by decide +kernel
theorem dX9_betrayed_39 : decode cX9_betrayed 39 = .ok (.ireturn, 1) := by decide +kernel
def BX9_betrayed_s (Q : Int32 → XT → YT → Prop) (p0 : Int32) (X : XT) (Y : YT) : Prop :=
  PX9_areReaders p0 X Y (fun r1 X2 Y3 => ((¬ r1 = 0 → PX9_goThrough p0 3000 X2 Y3 (fun X7 Y8 => (((X7 39 11) = 0 → PX9_betrayedNow X7 Y8 (fun r11 X12 Y13 => Q r11 X12 Y13)) ∧ (¬ (X7 39 11) = 0 → Q (-1005) X7 Y8)))) ∧ (r1 = 0 → Q (-1001) X2 Y3)))
def PX9_betrayed (p0 : Int32) (X : XT) (Y : YT) (Q : Int32 → XT → YT → Prop) : Prop :=  BX9_betrayed_s Q p0 X Y
set_option maxHeartbeats 4000000 in
set_option maxRecDepth 100000 in
theorem kX9_betrayed_s {Γ : Cxt} {Q : Int32 → XT → YT → Prop} (O : Ok Γ RX9 cX9_betrayed 2 { frames := 5, cells := 0, slots := 0, locals := 116 }) (r : Ret Γ (some .int) (qI Q)) {p0 : Int32} {X : XT} {Y : YT} (h : BX9_betrayed_s Q p0 X Y) : V Γ 0 [(0, .ref 0), (1, .int p0)] [] X Y := by
  refine v_iload_n O dX9_betrayed_0 rfl 1 rfl ?_
  refine v_callS (rm' := { frames := 1, cells := 0, slots := 0, locals := 22 }) (As := [.int p0]) (st := []) O dX9_betrayed_1 ci_X9_areReaders ml_X9_263 ms_X9_areReaders ⟨rfl, rfl, (by decide), (by decide)⟩ rfl (Nat.le_of_ble_eq_true rfl) rfl (mX9_areReaders h) (k_I (fun r1 X2 Y3 h4 => ?_))
  refine v_if_ne (tgt := 11) O dX9_betrayed_4 (by decide) (fun g5 => ?_) (fun g5 => ?_)
  · refine v_aload_n O dX9_betrayed_11 rfl 0 rfl ?_
    refine v_iload_n O dX9_betrayed_12 rfl 1 rfl ?_
    refine v_sipush O dX9_betrayed_13 ks_3000 ?_
    refine v_callV (rm' := { frames := 4, cells := 0, slots := 0, locals := 93 }) (As := [.int p0, .int 3000]) (st := []) O dX9_betrayed_16 ci_X9_goThrough ml_X9_194 mi_X9_goThrough sh_0 rfl ⟨rfl, rfl, (by decide), (by decide)⟩ rfl (Nat.le_of_ble_eq_true rfl) rfl (mX9_goThrough (h4.1 g5)) (k_V (fun X7 Y8 h9 => ?_))
    refine v_aload_n O dX9_betrayed_19 rfl 0 rfl ?_
    refine v_get O dX9_betrayed_20 fo_X9_67 sh_0 rfl rfl ?_
    refine v_get O dX9_betrayed_23 fo_X9_209 sh_39 rfl rfl ?_
    refine v_if_eq (tgt := 35) O dX9_betrayed_26 (by decide) (fun g10 => ?_) (fun g10 => ?_)
    · refine v_aload_n O dX9_betrayed_35 rfl 0 rfl ?_
      refine v_callV (rm' := { frames := 2, cells := 0, slots := 0, locals := 43 }) (As := []) (st := []) O dX9_betrayed_36 ci_X9_betrayedNow ml_X9_266 mi_X9_betrayedNow sh_0 rfl ⟨rfl, rfl, (by decide), (by decide)⟩ rfl (Nat.le_of_ble_eq_true rfl) rfl (mX9_betrayedNow (h9.1 g10)) (k_I (fun r11 X12 Y13 h14 => ?_))
      exact v_iret O r dX9_betrayed_39 ⟨_, rfl, h14⟩
    · refine v_sipush O dX9_betrayed_29 ks_m1005 ?_
      refine v_goto O dX9_betrayed_32 (tgt := 39) (by decide) ?_
      exact v_iret O r dX9_betrayed_39 ⟨_, rfl, (h9.2 g10)⟩
  · refine v_sipush O dX9_betrayed_7 ks_m1001 ?_
    exact v_iret O r dX9_betrayed_10 ⟨_, rfl, (h4.2 g5)⟩
set_option maxRecDepth 100000 in
theorem mX9_betrayed {Γ : Cxt} {p0 : Int32} {X : XT} {Y : YT} {Q : Int32 → XT → YT → Prop} (h : PX9_betrayed p0 X Y Q) : MT Γ yX9_betrayed (.code yX9_betrayed cX9_betrayed 2 (some .int) :: wl) { frames := 5, cells := 0, slots := 0, locals := 116 } [.ref 0, .int p0] X Y (qI Q) :=
  mt_of (by decide) (Nat.le_of_ble_eq_true rfl) (fun Γ _ O r => kX9_betrayed_s O r  (h ))
theorem dX9_tryToOpen_0 : decode cX9_tryToOpen 0 = .ok (.aload_n 0, 1) := by decide +kernel
theorem dX9_tryToOpen_1 : decode cX9_tryToOpen 1 = .ok (.getfield 58, 3) := by decide +kernel
theorem dX9_tryToOpen_4 : decode cX9_tryToOpen 4 = .ok (.iload_n 1, 1) := by decide +kernel
theorem dX9_tryToOpen_5 : decode cX9_tryToOpen 5 = .ok (.iconst 0, 1) := by decide +kernel
theorem dX9_tryToOpen_6 : decode cX9_tryToOpen 6 = .ok (.invokevirtual 244, 3) := by decide +kernel
theorem dX9_tryToOpen_9 : decode cX9_tryToOpen 9 = .ok (.aload_n 0, 1) := by decide +kernel
theorem dX9_tryToOpen_10 : decode cX9_tryToOpen 10 = .ok (.getfield 75, 3) := by decide +kernel
theorem dX9_tryToOpen_13 : decode cX9_tryToOpen 13 = .ok (.iand, 1) := by decide +kernel
theorem dX9_tryToOpen_14 : decode cX9_tryToOpen 14 = .ok (.ifCond .eq 5, 3) := by decide +kernel
theorem dX9_tryToOpen_17 : decode cX9_tryToOpen 17 = .ok (.iconst 0, 1) := by decide +kernel
theorem dX9_tryToOpen_18 : decode cX9_tryToOpen 18 = .ok (.ireturn, 1) := by decide +kernel
theorem dX9_tryToOpen_19 : decode cX9_tryToOpen 19 = .ok (.aload_n 0, 1) := by decide +kernel
theorem dX9_tryToOpen_20 : decode cX9_tryToOpen 20 = .ok (.getfield 58, 3) := by decide +kernel
theorem dX9_tryToOpen_23 : decode cX9_tryToOpen 23 = .ok (.iload_n 1, 1) := by decide +kernel
theorem dX9_tryToOpen_24 : decode cX9_tryToOpen 24 = .ok (.iconst 0, 1) := by decide +kernel
theorem dX9_tryToOpen_25 : decode cX9_tryToOpen 25 = .ok (.invokevirtual 286, 3) := by decide +kernel
theorem dX9_tryToOpen_28 : decode cX9_tryToOpen 28 = .ok (.aload_n 0, 1) := by decide +kernel
theorem dX9_tryToOpen_29 : decode cX9_tryToOpen 29 = .ok (.getfield 67, 3) := by decide +kernel
theorem dX9_tryToOpen_32 : decode cX9_tryToOpen 32 = .ok (.sipush 3000, 3) := by decide +kernel
theorem dX9_tryToOpen_35 : decode cX9_tryToOpen 35 = .ok (.invokevirtual 289, 3) := by decide +kernel
theorem dX9_tryToOpen_38 : decode cX9_tryToOpen 38 = .ok (.aload_n 0, 1) := by decide +kernel
theorem dX9_tryToOpen_39 : decode cX9_tryToOpen 39 = .ok (.getfield 67, 3) := by decide +kernel
theorem dX9_tryToOpen_42 : decode cX9_tryToOpen 42 = .ok (.getfield 209, 3) := by decide +kernel
theorem dX9_tryToOpen_45 : decode cX9_tryToOpen 45 = .ok (.ifCond .eq 7, 3) := by decide +kernel
theorem dX9_tryToOpen_48 : decode cX9_tryToOpen 48 = .ok (.sipush (-1005), 3) := by decide +kernel
theorem dX9_tryToOpen_51 : decode cX9_tryToOpen 51 = .ok (.ireturn, 1) := by decide +kernel
theorem dX9_tryToOpen_52 : decode cX9_tryToOpen 52 = .ok (.aload_n 0, 1) := by decide +kernel
theorem dX9_tryToOpen_53 : decode cX9_tryToOpen 53 = .ok (.getfield 67, 3) := by decide +kernel
theorem dX9_tryToOpen_56 : decode cX9_tryToOpen 56 = .ok (.getfield 197, 3) := by decide +kernel
theorem dX9_tryToOpen_59 : decode cX9_tryToOpen 59 = .ok (.getfield 201, 3) := by decide +kernel
theorem dX9_tryToOpen_62 : decode cX9_tryToOpen 62 = .ok (.ifCond .le 14, 3) := by decide +kernel
theorem dX9_tryToOpen_65 : decode cX9_tryToOpen 65 = .ok (.aload_n 0, 1) := by decide +kernel
theorem dX9_tryToOpen_66 : decode cX9_tryToOpen 66 = .ok (.invokevirtual 266, 3) := by decide +kernel
theorem dX9_tryToOpen_69 : decode cX9_tryToOpen 69 = .ok (.ifCond .ne 7, 3) := by decide +kernel
theorem dX9_tryToOpen_72 : decode cX9_tryToOpen 72 = .ok (.iconst 1, 1) := by decide +kernel
theorem dX9_tryToOpen_73 : decode cX9_tryToOpen 73 = .ok (.goto 4, 3) := by decide +kernel
theorem dX9_tryToOpen_76 : decode cX9_tryToOpen 76 = .ok (.iconst 0, 1) := by decide +kernel
theorem dX9_tryToOpen_77 : decode cX9_tryToOpen 77 = .ok (.ireturn, 1) := by decide +kernel
def BX9_tryToOpen_s (Q : Int32 → XT → YT → Prop) (p0 : Int32) (X : XT) (Y : YT) : Prop :=
  PX0_shownOn p0 0 X Y (fun r1 X2 Y3 => (((r1 &&& (X2 0 9)) = 0 → PX0_lay p0 0 X2 Y3 (fun X7 Y8 => PX5_go 3000 X7 Y8 (fun X11 Y12 => (((X11 39 11) = 0 → (((X11 40 1) ≤ 0 → Q 0 X11 Y12) ∧ (¬ (X11 40 1) ≤ 0 → PX9_betrayedNow X11 Y12 (fun r16 X17 Y18 => ((¬ r16 = 0 → Q 0 X17 Y18) ∧ (r16 = 0 → Q 1 X17 Y18)))))) ∧ (¬ (X11 39 11) = 0 → Q (-1005) X11 Y12))))) ∧ (¬ (r1 &&& (X2 0 9)) = 0 → Q 0 X2 Y3)))
def PX9_tryToOpen (p0 : Int32) (X : XT) (Y : YT) (Q : Int32 → XT → YT → Prop) : Prop :=  BX9_tryToOpen_s Q p0 X Y
set_option maxHeartbeats 4000000 in
set_option maxRecDepth 100000 in
theorem kX9_tryToOpen_s {Γ : Cxt} {Q : Int32 → XT → YT → Prop} (O : Ok Γ RX9 cX9_tryToOpen 2 { frames := 4, cells := 0, slots := 0, locals := 93 }) (r : Ret Γ (some .int) (qI Q)) {p0 : Int32} {X : XT} {Y : YT} (h : BX9_tryToOpen_s Q p0 X Y) : V Γ 0 [(0, .ref 0), (1, .int p0)] [] X Y := by
  refine v_aload_n O dX9_tryToOpen_0 rfl 0 rfl ?_
  refine v_get O dX9_tryToOpen_1 fo_X9_58 sh_0 rfl rfl ?_
  refine v_iload_n O dX9_tryToOpen_4 rfl 1 rfl ?_
  refine v_iconst O dX9_tryToOpen_5 kc_0 ?_
  refine v_callV (rm' := { frames := 2, cells := 0, slots := 0, locals := 44 }) (As := [.int p0, .int 0]) (st := []) O dX9_tryToOpen_6 ci_X0_shownOn ml_X9_244 mi_X0_shownOn sh_35 rfl ⟨rfl, rfl, (by decide), (by decide)⟩ rfl (Nat.le_of_ble_eq_true rfl) rfl (mX0_shownOn h) (k_I (fun r1 X2 Y3 h4 => ?_))
  refine v_aload_n O dX9_tryToOpen_9 rfl 0 rfl ?_
  refine v_get O dX9_tryToOpen_10 fo_X9_75 sh_0 rfl rfl ?_
  refine v_iand O dX9_tryToOpen_13 ?_
  refine v_if_eq (tgt := 19) O dX9_tryToOpen_14 (by decide) (fun g5 => ?_) (fun g5 => ?_)
  · refine v_aload_n O dX9_tryToOpen_19 rfl 0 rfl ?_
    refine v_get O dX9_tryToOpen_20 fo_X9_58 sh_0 rfl rfl ?_
    refine v_iload_n O dX9_tryToOpen_23 rfl 1 rfl ?_
    refine v_iconst O dX9_tryToOpen_24 kc_0 ?_
    refine v_callV (rm' := { frames := 3, cells := 0, slots := 0, locals := 66 }) (As := [.int p0, .int 0]) (st := []) O dX9_tryToOpen_25 ci_X0_lay ml_X9_286 mi_X0_lay sh_35 rfl ⟨rfl, rfl, (by decide), (by decide)⟩ rfl (Nat.le_of_ble_eq_true rfl) rfl (mX0_lay (h4.1 g5)) (k_V (fun X7 Y8 h9 => ?_))
    refine v_aload_n O dX9_tryToOpen_28 rfl 0 rfl ?_
    refine v_get O dX9_tryToOpen_29 fo_X9_67 sh_0 rfl rfl ?_
    refine v_sipush O dX9_tryToOpen_32 ks_3000 ?_
    refine v_callV (rm' := { frames := 3, cells := 0, slots := 0, locals := 70 }) (As := [.int 3000]) (st := []) O dX9_tryToOpen_35 ci_X5_go ml_X9_289 mi_X5_go sh_39 rfl ⟨rfl, rfl, (by decide), (by decide)⟩ rfl (Nat.le_of_ble_eq_true rfl) rfl (mX5_go h9) (k_V (fun X11 Y12 h13 => ?_))
    refine v_aload_n O dX9_tryToOpen_38 rfl 0 rfl ?_
    refine v_get O dX9_tryToOpen_39 fo_X9_67 sh_0 rfl rfl ?_
    refine v_get O dX9_tryToOpen_42 fo_X9_209 sh_39 rfl rfl ?_
    refine v_if_eq (tgt := 52) O dX9_tryToOpen_45 (by decide) (fun g14 => ?_) (fun g14 => ?_)
    · refine v_aload_n O dX9_tryToOpen_52 rfl 0 rfl ?_
      refine v_get O dX9_tryToOpen_53 fo_X9_67 sh_0 rfl rfl ?_
      refine v_get O dX9_tryToOpen_56 fo_X9_197 sh_39 rfl rfl ?_
      refine v_get O dX9_tryToOpen_59 fo_X9_201 sh_40 rfl rfl ?_
      refine v_if_le (tgt := 76) O dX9_tryToOpen_62 (by decide) (fun g15 => ?_) (fun g15 => ?_)
      · refine v_iconst O dX9_tryToOpen_76 kc_0 ?_
        exact v_iret O r dX9_tryToOpen_77 ⟨_, rfl, ((h13.1 g14).1 g15)⟩
      · refine v_aload_n O dX9_tryToOpen_65 rfl 0 rfl ?_
        refine v_callV (rm' := { frames := 2, cells := 0, slots := 0, locals := 43 }) (As := []) (st := []) O dX9_tryToOpen_66 ci_X9_betrayedNow ml_X9_266 mi_X9_betrayedNow sh_0 rfl ⟨rfl, rfl, (by decide), (by decide)⟩ rfl (Nat.le_of_ble_eq_true rfl) rfl (mX9_betrayedNow ((h13.1 g14).2 g15)) (k_I (fun r16 X17 Y18 h19 => ?_))
        refine v_if_ne (tgt := 76) O dX9_tryToOpen_69 (by decide) (fun g20 => ?_) (fun g20 => ?_)
        · refine v_iconst O dX9_tryToOpen_76 kc_0 ?_
          exact v_iret O r dX9_tryToOpen_77 ⟨_, rfl, (h19.1 g20)⟩
        · refine v_iconst O dX9_tryToOpen_72 kc_1 ?_
          refine v_goto O dX9_tryToOpen_73 (tgt := 77) (by decide) ?_
          exact v_iret O r dX9_tryToOpen_77 ⟨_, rfl, (h19.2 g20)⟩
    · refine v_sipush O dX9_tryToOpen_48 ks_m1005 ?_
      exact v_iret O r dX9_tryToOpen_51 ⟨_, rfl, (h13.2 g14)⟩
  · refine v_iconst O dX9_tryToOpen_17 kc_0 ?_
    exact v_iret O r dX9_tryToOpen_18 ⟨_, rfl, (h4.2 g5)⟩
set_option maxRecDepth 100000 in
theorem mX9_tryToOpen {Γ : Cxt} {p0 : Int32} {X : XT} {Y : YT} {Q : Int32 → XT → YT → Prop} (h : PX9_tryToOpen p0 X Y Q) : MT Γ yX9_tryToOpen (.code yX9_tryToOpen cX9_tryToOpen 2 (some .int) :: wl) { frames := 4, cells := 0, slots := 0, locals := 93 } [.ref 0, .int p0] X Y (qI Q) :=
  mt_of (by decide) (Nat.le_of_ble_eq_true rfl) (fun Γ _ O r => kX9_tryToOpen_s O r  (h ))
theorem dX9_opened_0 : decode cX9_opened 0 = .ok (.iload_n 1, 1) := by decide +kernel
theorem dX9_opened_1 : decode cX9_opened 1 = .ok (.aload_n 0, 1) := by decide +kernel
theorem dX9_opened_2 : decode cX9_opened 2 = .ok (.getfield 26, 3) := by decide +kernel
theorem dX9_opened_5 : decode cX9_opened 5 = .ok (.getfield 133, 3) := by decide +kernel
theorem dX9_opened_8 : decode cX9_opened 8 = .ok (.invokestatic 104, 3) := by decide +kernel
theorem dX9_opened_11 : decode cX9_opened 11 = .ok (.iconst (-1), 1) := by decide +kernel
theorem dX9_opened_12 : decode cX9_opened 12 = .ok (.ixor, 1) := by decide +kernel
theorem dX9_opened_13 : decode cX9_opened 13 = .ok (.iand, 1) := by decide +kernel
theorem dX9_opened_14 : decode cX9_opened 14 = .ok (.ifCond .eq 7, 3) := by decide +kernel
theorem dX9_opened_17 : decode cX9_opened 17 = .ok (.sipush (-1001), 3) := by decide +kernel
theorem dX9_opened_20 : decode cX9_opened 20 = .ok (.ireturn, 1) := by decide +kernel
theorem dX9_opened_21 : decode cX9_opened 21 = .ok (.aload_n 0, 1) := by decide +kernel
theorem dX9_opened_22 : decode cX9_opened 22 = .ok (.getfield 58, 3) := by decide +kernel
theorem dX9_opened_25 : decode cX9_opened 25 = .ok (.aload_n 0, 1) := by decide +kernel
theorem dX9_opened_26 : decode cX9_opened 26 = .ok (.getfield 71, 3) := by decide +kernel
theorem dX9_opened_29 : decode cX9_opened 29 = .ok (.invokevirtual 269, 3) := by decide +kernel
theorem dX9_opened_32 : decode cX9_opened 32 = .ok (.aload_n 0, 1) := by decide +kernel
theorem dX9_opened_33 : decode cX9_opened 33 = .ok (.iload_n 1, 1) := by decide +kernel
theorem dX9_opened_34 : decode cX9_opened 34 = .ok (.invokevirtual 272, 3) := by decide +kernel
theorem dX9_opened_37 : decode cX9_opened 37 = .ok (.ireturn, 1) := by decide +kernel
def BX9_opened_s (Q : Int32 → XT → YT → Prop) (p0 : Int32) (X : XT) (Y : YT) : Prop :=
  PX9_allBelow (X 13 10) X Y (fun r1 X2 Y3 => (((p0 &&& (r1 ^^^ (-1))) = 0 → PX0_measure (X2 0 8) X2 Y3 (fun X7 Y8 => PX9_tryToOpen p0 X7 Y8 (fun r10 X11 Y12 => Q r10 X11 Y12))) ∧ (¬ (p0 &&& (r1 ^^^ (-1))) = 0 → Q (-1001) X2 Y3)))
def PX9_opened (p0 : Int32) (X : XT) (Y : YT) (Q : Int32 → XT → YT → Prop) : Prop :=  BX9_opened_s Q p0 X Y
set_option maxHeartbeats 4000000 in
set_option maxRecDepth 100000 in
theorem kX9_opened_s {Γ : Cxt} {Q : Int32 → XT → YT → Prop} (O : Ok Γ RX9 cX9_opened 2 { frames := 5, cells := 0, slots := 0, locals := 114 }) (r : Ret Γ (some .int) (qI Q)) {p0 : Int32} {X : XT} {Y : YT} (h : BX9_opened_s Q p0 X Y) : V Γ 0 [(0, .ref 0), (1, .int p0)] [] X Y := by
  refine v_iload_n O dX9_opened_0 rfl 1 rfl ?_
  refine v_aload_n O dX9_opened_1 rfl 0 rfl ?_
  refine v_get O dX9_opened_2 fo_X9_26 sh_0 rfl rfl ?_
  refine v_get O dX9_opened_5 fo_X9_133 sh_13 rfl rfl ?_
  refine v_callS (rm' := { frames := 0, cells := 0, slots := 0, locals := 0 }) (As := [.int (X 13 10)]) (st := [.int p0]) O dX9_opened_8 ci_X9_allBelow ml_X9_104 ms_X9_allBelow ⟨rfl, rfl, (by decide), (by decide)⟩ rfl (Nat.le_of_ble_eq_true rfl) rfl (mX9_allBelow h) (k_I (fun r1 X2 Y3 h4 => ?_))
  refine v_iconst O dX9_opened_11 kc_m1 ?_
  refine v_ixor O dX9_opened_12 ?_
  refine v_iand O dX9_opened_13 ?_
  refine v_if_eq (tgt := 21) O dX9_opened_14 (by decide) (fun g5 => ?_) (fun g5 => ?_)
  · refine v_aload_n O dX9_opened_21 rfl 0 rfl ?_
    refine v_get O dX9_opened_22 fo_X9_58 sh_0 rfl rfl ?_
    refine v_aload_n O dX9_opened_25 rfl 0 rfl ?_
    refine v_get O dX9_opened_26 fo_X9_71 sh_0 rfl rfl ?_
    refine v_callV (rm' := { frames := 3, cells := 0, slots := 0, locals := 70 }) (As := [.int (X2 0 8)]) (st := []) O dX9_opened_29 ci_X0_measure ml_X9_269 mi_X0_measure sh_35 rfl ⟨rfl, rfl, (by decide), (by decide)⟩ rfl (Nat.le_of_ble_eq_true rfl) rfl (mX0_measure (h4.1 g5)) (k_V (fun X7 Y8 h9 => ?_))
    refine v_aload_n O dX9_opened_32 rfl 0 rfl ?_
    refine v_iload_n O dX9_opened_33 rfl 1 rfl ?_
    refine v_callV (rm' := { frames := 4, cells := 0, slots := 0, locals := 93 }) (As := [.int p0]) (st := []) O dX9_opened_34 ci_X9_tryToOpen ml_X9_272 mi_X9_tryToOpen sh_0 rfl ⟨rfl, rfl, (by decide), (by decide)⟩ rfl (Nat.le_of_ble_eq_true rfl) rfl (mX9_tryToOpen h9) (k_I (fun r10 X11 Y12 h13 => ?_))
    exact v_iret O r dX9_opened_37 ⟨_, rfl, h13⟩
  · refine v_sipush O dX9_opened_17 ks_m1001 ?_
    exact v_iret O r dX9_opened_20 ⟨_, rfl, (h4.2 g5)⟩
set_option maxRecDepth 100000 in
theorem mX9_opened {Γ : Cxt} {p0 : Int32} {X : XT} {Y : YT} {Q : Int32 → XT → YT → Prop} (h : PX9_opened p0 X Y Q) : MT Γ yX9_opened (.code yX9_opened cX9_opened 2 (some .int) :: wl) { frames := 5, cells := 0, slots := 0, locals := 114 } [.ref 0, .int p0] X Y (qI Q) :=
  mt_of (by decide) (Nat.le_of_ble_eq_true rfl) (fun Γ _ O r => kX9_opened_s O r  (h ))
theorem dX9_most_0 : decode cX9_most 0 = .ok (.aload_n 0, 1) := by decide +kernel
theorem dX9_most_1 : decode cX9_most 1 = .ok (.getfield 58, 3) := by decide +kernel
theorem dX9_most_4 : decode cX9_most 4 = .ok (.aload_n 0, 1) := by decide +kernel
theorem dX9_most_5 : decode cX9_most 5 = .ok (.getfield 71, 3) := by decide +kernel
theorem dX9_most_8 : decode cX9_most 8 = .ok (.invokevirtual 269, 3) := by decide +kernel
theorem dX9_most_11 : decode cX9_most 11 = .ok (.aload_n 0, 1) := by decide +kernel
theorem dX9_most_12 : decode cX9_most 12 = .ok (.getfield 26, 3) := by decide +kernel
theorem dX9_most_15 : decode cX9_most 15 = .ok (.getfield 133, 3) := by decide +kernel
theorem dX9_most_18 : decode cX9_most 18 = .ok (.istore_n 1, 1) := by decide +kernel
theorem dX9_most_19 : decode cX9_most 19 = .ok (.iload_n 1, 1) := by decide +kernel
theorem dX9_most_20 : decode cX9_most 20 = .ok (.ifCond .lt 68, 3) := by decide +kernel
theorem dX9_most_23 : decode cX9_most 23 = .ok (.iconst 0, 1) := by decide +kernel
theorem dX9_most_24 : decode cX9_most 24 = .ok (.istore_n 2, 1) := by decide +kernel
theorem dX9_most_25 : decode cX9_most 25 = .ok (.iload_n 2, 1) := by decide +kernel
theorem dX9_most_26 : decode cX9_most 26 = .ok (.aload_n 0, 1) := by decide +kernel
theorem dX9_most_27 : decode cX9_most 27 = .ok (.getfield 26, 3) := by decide +kernel
theorem dX9_most_30 : decode cX9_most 30 = .ok (.getfield 133, 3) := by decide +kernel
theorem dX9_most_33 : decode cX9_most 33 = .ok (.invokestatic 104, 3) := by decide +kernel
theorem dX9_most_36 : decode cX9_most 36 = .ok (.if_icmp .gt 46, 3) := by decide +kernel
theorem dX9_most_39 : decode cX9_most 39 = .ok (.iload_n 2, 1) := by decide +kernel
theorem dX9_most_40 : decode cX9_most 40 = .ok (.invokestatic 146, 3) := by decide +kernel
theorem dX9_most_43 : decode cX9_most 43 = .ok (.iload_n 1, 1) := by decide +kernel
theorem dX9_most_44 : decode cX9_most 44 = .ok (.if_icmp .ne 11, 3) := by decide +kernel
theorem dX9_most_47 : decode cX9_most 47 = .ok (.aload_n 0, 1) := by decide +kernel
theorem dX9_most_48 : decode cX9_most 48 = .ok (.iload_n 2, 1) := by decide +kernel
theorem dX9_most_49 : decode cX9_most 49 = .ok (.invokevirtual 272, 3) := by decide +kernel
theorem dX9_most_52 : decode cX9_most 52 = .ok (.goto 4, 3) := by decide +kernel
theorem dX9_most_55 : decode cX9_most 55 = .ok (.iconst 0, 1) := by decide +kernel
theorem dX9_most_56 : decode cX9_most 56 = .ok (.istore_n 3, 1) := by decide +kernel
theorem dX9_most_57 : decode cX9_most 57 = .ok (.iload_n 3, 1) := by decide +kernel
theorem dX9_most_58 : decode cX9_most 58 = .ok (.ifCond .eq 18, 3) := by decide +kernel
theorem dX9_most_61 : decode cX9_most 61 = .ok (.iload_n 3, 1) := by decide +kernel
theorem dX9_most_62 : decode cX9_most 62 = .ok (.sipush (-1005), 3) := by decide +kernel
theorem dX9_most_65 : decode cX9_most 65 = .ok (.if_icmp .ne 9, 3) := by decide +kernel
theorem dX9_most_68 : decode cX9_most 68 = .ok (.sipush (-1005), 3) := by decide +kernel
theorem dX9_most_71 : decode cX9_most 71 = .ok (.goto 4, 3) := by decide +kernel
theorem dX9_most_74 : decode cX9_most 74 = .ok (.iload_n 2, 1) := by decide +kernel
theorem dX9_most_75 : decode cX9_most 75 = .ok (.ireturn, 1) := by decide +kernel
theorem dX9_most_76 : decode cX9_most 76 = .ok (.iinc 2 1, 3) := by decide +kernel
theorem dX9_most_79 : decode cX9_most 79 = .ok (.goto (-54), 3) := by decide +kernel
theorem dX9_most_82 : decode cX9_most 82 = .ok (.iinc 1 (-1), 3) := by decide +kernel
theorem dX9_most_85 : decode cX9_most 85 = .ok (.goto (-66), 3) := by decide +kernel
theorem dX9_most_88 : decode cX9_most 88 = .ok (.iconst 0, 1) := by decide +kernel
theorem dX9_most_89 : decode cX9_most 89 = .ok (.ireturn, 1) := by decide +kernel
def BX9_most_19 (I19 : Int32 → XT → YT → Prop) (I25 : Int32 → Int32 → XT → YT → Prop) (Q : Int32 → XT → YT → Prop) (a1 : Int32) (X : XT) (Y : YT) : Prop :=
  ((a1 < 0 → Q 0 X Y) ∧ (¬ a1 < 0 → I25 a1 0 X Y))
def BX9_most_25 (I19 : Int32 → XT → YT → Prop) (I25 : Int32 → Int32 → XT → YT → Prop) (Q : Int32 → XT → YT → Prop) (a1 : Int32) (a2 : Int32) (X : XT) (Y : YT) : Prop :=
  PX9_allBelow (X 13 10) X Y (fun r1 X2 Y3 => ((r1 < a2 → ∀ w6 : Int32, w6 = a1 + (-1) → I19 w6 X2 Y3) ∧ (¬ r1 < a2 → PJ6_bitCount_0f7a4 a2 X2 Y3 (fun r8 X9 Y10 => ((¬ r8 = a1 → (((0 : Int32) = 0 → ∀ w14 : Int32, w14 = a2 + 1 → I25 a1 w14 X9 Y10) ∧ (¬ (0 : Int32) = 0 → ((¬ (0 : Int32) = (-1005) → Q a2 X9 Y10) ∧ ((0 : Int32) = (-1005) → Q (-1005) X9 Y10))))) ∧ (r8 = a1 → PX9_tryToOpen a2 X9 Y10 (fun r17 X18 Y19 => ((r17 = 0 → ∀ w22 : Int32, w22 = a2 + 1 → I25 a1 w22 X18 Y19) ∧ (¬ r17 = 0 → ((¬ r17 = (-1005) → Q a2 X18 Y19) ∧ (r17 = (-1005) → Q (-1005) X18 Y19)))))))))))
def BX9_most_s (I19 : Int32 → XT → YT → Prop) (I25 : Int32 → Int32 → XT → YT → Prop) (Q : Int32 → XT → YT → Prop) (X : XT) (Y : YT) : Prop :=
  PX0_measure (X 0 8) X Y (fun X2 Y3 => ∀ w5 : Int32, w5 = (X2 13 10) → I19 w5 X2 Y3)
def PX9_most (X : XT) (Y : YT) (Q : Int32 → XT → YT → Prop) : Prop := ∀ (I19 : Int32 → XT → YT → Prop) (I25 : Int32 → Int32 → XT → YT → Prop), (∀ (a1 : Int32) (X : XT) (Y : YT), BX9_most_19 I19 I25 Q a1 X Y → I19 a1 X Y) → (∀ (a1 : Int32) (a2 : Int32) (X : XT) (Y : YT), BX9_most_25 I19 I25 Q a1 a2 X Y → I25 a1 a2 X Y) → BX9_most_s I19 I25 Q X Y
set_option maxHeartbeats 4000000 in
set_option maxRecDepth 100000 in
theorem kX9_most_19 {Γ : Cxt} {Q : Int32 → XT → YT → Prop} (O : Ok Γ RX9 cX9_most 4 { frames := 5, cells := 0, slots := 0, locals := 114 }) (r : Ret Γ (some .int) (qI Q)) {I19 : Int32 → XT → YT → Prop} {I25 : Int32 → Int32 → XT → YT → Prop} (e19 : ∀ (a1 : Int32) (X : XT) (Y : YT), I19 a1 X Y → V Γ 19 [(0, .ref 0), (1, .int a1)] [] X Y) (e25 : ∀ (a1 : Int32) (a2 : Int32) (X : XT) (Y : YT), I25 a1 a2 X Y → V Γ 25 [(0, .ref 0), (1, .int a1), (2, .int a2)] [] X Y) {a1 : Int32} {X : XT} {Y : YT} (h : BX9_most_19 I19 I25 Q a1 X Y) : V Γ 19 [(0, .ref 0), (1, .int a1)] [] X Y := by
  refine v_iload_n O dX9_most_19 rfl 1 rfl ?_
  refine v_if_lt (tgt := 88) O dX9_most_20 (by decide) (fun g1 => ?_) (fun g1 => ?_)
  · refine v_iconst O dX9_most_88 kc_0 ?_
    exact v_iret O r dX9_most_89 ⟨_, rfl, (h.1 g1)⟩
  · refine v_iconst O dX9_most_23 kc_0 ?_
    refine v_istore_n (lv' := [(2, .int 0), (0, .ref 0), (1, .int a1)]) O dX9_most_24 rfl (by decide) rfl ?_
    exact v_loc [1, 2, 0] rfl (e25 a1 0 X Y (h.2 g1))
set_option maxHeartbeats 4000000 in
set_option maxRecDepth 100000 in
theorem kX9_most_25 {Γ : Cxt} {Q : Int32 → XT → YT → Prop} (O : Ok Γ RX9 cX9_most 4 { frames := 5, cells := 0, slots := 0, locals := 114 }) (r : Ret Γ (some .int) (qI Q)) {I19 : Int32 → XT → YT → Prop} {I25 : Int32 → Int32 → XT → YT → Prop} (e19 : ∀ (a1 : Int32) (X : XT) (Y : YT), I19 a1 X Y → V Γ 19 [(0, .ref 0), (1, .int a1)] [] X Y) (e25 : ∀ (a1 : Int32) (a2 : Int32) (X : XT) (Y : YT), I25 a1 a2 X Y → V Γ 25 [(0, .ref 0), (1, .int a1), (2, .int a2)] [] X Y) {a1 : Int32} {a2 : Int32} {X : XT} {Y : YT} (h : BX9_most_25 I19 I25 Q a1 a2 X Y) : V Γ 25 [(0, .ref 0), (1, .int a1), (2, .int a2)] [] X Y := by
  refine v_iload_n O dX9_most_25 rfl 2 rfl ?_
  refine v_aload_n O dX9_most_26 rfl 0 rfl ?_
  refine v_get O dX9_most_27 fo_X9_26 sh_0 rfl rfl ?_
  refine v_get O dX9_most_30 fo_X9_133 sh_13 rfl rfl ?_
  refine v_callS (rm' := { frames := 0, cells := 0, slots := 0, locals := 0 }) (As := [.int (X 13 10)]) (st := [.int a2]) O dX9_most_33 ci_X9_allBelow ml_X9_104 ms_X9_allBelow ⟨rfl, rfl, (by decide), (by decide)⟩ rfl (Nat.le_of_ble_eq_true rfl) rfl (mX9_allBelow h) (k_I (fun r1 X2 Y3 h4 => ?_))
  refine v_icmp_gt (tgt := 82) O dX9_most_36 (by decide) (fun g5 => ?_) (fun g5 => ?_)
  · obtain ⟨w6, hw7⟩ : ∃ y : Int32, y = a1 + (-1) := ⟨_, rfl⟩
    refine v_iinc (v := w6) (j := 1) O dX9_most_82 rfl (by rw [hw7]; exact congrArg _ kc_m1) (by decide) (lv' := [(1, .int w6), (0, .ref 0), (2, .int a2)]) rfl ?_
    refine v_goto O dX9_most_85 (tgt := 19) (by decide) ?_
    exact v_loc [1, 0] rfl (e19 w6 X2 Y3 ((h4.1 g5) w6 hw7))
  · refine v_iload_n O dX9_most_39 rfl 2 rfl ?_
    refine v_callS (rm' := { frames := 0, cells := 0, slots := 0, locals := 0 }) (As := [.int a2]) (st := []) O dX9_most_40 ci_J6_bitCount_0f7a4 ml_X9_146 ms_J6_bitCount_0f7a4 ⟨rfl, rfl, (by decide), (by decide)⟩ rfl (Nat.le_of_ble_eq_true rfl) rfl (mJ6_bitCount_0f7a4 (h4.2 g5)) (k_I (fun r8 X9 Y10 h11 => ?_))
    refine v_iload_n O dX9_most_43 rfl 1 rfl ?_
    refine v_icmp_ne (tgt := 55) O dX9_most_44 (by decide) (fun g12 => ?_) (fun g12 => ?_)
    · refine v_iconst O dX9_most_55 kc_0 ?_
      refine v_istore_n (lv' := [(3, .int 0), (0, .ref 0), (1, .int a1), (2, .int a2)]) O dX9_most_56 rfl (by decide) rfl ?_
      refine v_iload_n O dX9_most_57 rfl 0 rfl ?_
      refine v_if_eq (tgt := 76) O dX9_most_58 (by decide) (fun g13 => ?_) (fun g13 => ?_)
      · obtain ⟨w14, hw15⟩ : ∃ y : Int32, y = a2 + 1 := ⟨_, rfl⟩
        refine v_iinc (v := w14) (j := 3) O dX9_most_76 rfl (by rw [hw15]; exact congrArg _ kc_1) (by decide) (lv' := [(2, .int w14), (3, .int 0), (0, .ref 0), (1, .int a1)]) rfl ?_
        refine v_goto O dX9_most_79 (tgt := 25) (by decide) ?_
        exact v_loc [2, 3, 0] rfl (e25 a1 w14 X9 Y10 (((h11.1 g12).1 g13) w14 hw15))
      · refine v_iload_n O dX9_most_61 rfl 0 rfl ?_
        refine v_sipush O dX9_most_62 ks_m1005 ?_
        refine v_icmp_ne (tgt := 74) O dX9_most_65 (by decide) (fun g16 => ?_) (fun g16 => ?_)
        · refine v_iload_n O dX9_most_74 rfl 3 rfl ?_
          exact v_iret O r dX9_most_75 ⟨_, rfl, (((h11.1 g12).2 g13).1 g16)⟩
        · refine v_sipush O dX9_most_68 ks_m1005 ?_
          refine v_goto O dX9_most_71 (tgt := 75) (by decide) ?_
          exact v_iret O r dX9_most_75 ⟨_, rfl, (((h11.1 g12).2 g13).2 g16)⟩
    · refine v_aload_n O dX9_most_47 rfl 0 rfl ?_
      refine v_iload_n O dX9_most_48 rfl 2 rfl ?_
      refine v_callV (rm' := { frames := 4, cells := 0, slots := 0, locals := 93 }) (As := [.int a2]) (st := []) O dX9_most_49 ci_X9_tryToOpen ml_X9_272 mi_X9_tryToOpen sh_0 rfl ⟨rfl, rfl, (by decide), (by decide)⟩ rfl (Nat.le_of_ble_eq_true rfl) rfl (mX9_tryToOpen (h11.2 g12)) (k_I (fun r17 X18 Y19 h20 => ?_))
      refine v_goto O dX9_most_52 (tgt := 56) (by decide) ?_
      refine v_istore_n (lv' := [(3, .int r17), (0, .ref 0), (1, .int a1), (2, .int a2)]) O dX9_most_56 rfl (by decide) rfl ?_
      refine v_iload_n O dX9_most_57 rfl 0 rfl ?_
      refine v_if_eq (tgt := 76) O dX9_most_58 (by decide) (fun g21 => ?_) (fun g21 => ?_)
      · obtain ⟨w22, hw23⟩ : ∃ y : Int32, y = a2 + 1 := ⟨_, rfl⟩
        refine v_iinc (v := w22) (j := 3) O dX9_most_76 rfl (by rw [hw23]; exact congrArg _ kc_1) (by decide) (lv' := [(2, .int w22), (3, .int r17), (0, .ref 0), (1, .int a1)]) rfl ?_
        refine v_goto O dX9_most_79 (tgt := 25) (by decide) ?_
        exact v_loc [2, 3, 0] rfl (e25 a1 w22 X18 Y19 ((h20.1 g21) w22 hw23))
      · refine v_iload_n O dX9_most_61 rfl 0 rfl ?_
        refine v_sipush O dX9_most_62 ks_m1005 ?_
        refine v_icmp_ne (tgt := 74) O dX9_most_65 (by decide) (fun g24 => ?_) (fun g24 => ?_)
        · refine v_iload_n O dX9_most_74 rfl 3 rfl ?_
          exact v_iret O r dX9_most_75 ⟨_, rfl, ((h20.2 g21).1 g24)⟩
        · refine v_sipush O dX9_most_68 ks_m1005 ?_
          refine v_goto O dX9_most_71 (tgt := 75) (by decide) ?_
          exact v_iret O r dX9_most_75 ⟨_, rfl, ((h20.2 g21).2 g24)⟩
set_option maxHeartbeats 4000000 in
set_option maxRecDepth 100000 in
theorem kX9_most_s {Γ : Cxt} {Q : Int32 → XT → YT → Prop} (O : Ok Γ RX9 cX9_most 4 { frames := 5, cells := 0, slots := 0, locals := 114 }) (r : Ret Γ (some .int) (qI Q)) {I19 : Int32 → XT → YT → Prop} {I25 : Int32 → Int32 → XT → YT → Prop} (e19 : ∀ (a1 : Int32) (X : XT) (Y : YT), I19 a1 X Y → V Γ 19 [(0, .ref 0), (1, .int a1)] [] X Y) (e25 : ∀ (a1 : Int32) (a2 : Int32) (X : XT) (Y : YT), I25 a1 a2 X Y → V Γ 25 [(0, .ref 0), (1, .int a1), (2, .int a2)] [] X Y) {X : XT} {Y : YT} (h : BX9_most_s I19 I25 Q X Y) : V Γ 0 [(0, .ref 0)] [] X Y := by
  refine v_aload_n O dX9_most_0 rfl 0 rfl ?_
  refine v_get O dX9_most_1 fo_X9_58 sh_0 rfl rfl ?_
  refine v_aload_n O dX9_most_4 rfl 0 rfl ?_
  refine v_get O dX9_most_5 fo_X9_71 sh_0 rfl rfl ?_
  refine v_callV (rm' := { frames := 3, cells := 0, slots := 0, locals := 70 }) (As := [.int (X 0 8)]) (st := []) O dX9_most_8 ci_X0_measure ml_X9_269 mi_X0_measure sh_35 rfl ⟨rfl, rfl, (by decide), (by decide)⟩ rfl (Nat.le_of_ble_eq_true rfl) rfl (mX0_measure h) (k_V (fun X2 Y3 h4 => ?_))
  refine v_aload_n O dX9_most_11 rfl 0 rfl ?_
  refine v_get O dX9_most_12 fo_X9_26 sh_0 rfl rfl ?_
  refine v_get O dX9_most_15 fo_X9_133 sh_13 rfl rfl ?_
  refine v_topi (fun w5 hw6 => ?_)
  refine v_istore_n (lv' := [(1, .int w5), (0, .ref 0)]) O dX9_most_18 rfl (by decide) rfl ?_
  exact v_loc [1, 0] rfl (e19 w5 X2 Y3 (h4 w5 hw6))
set_option maxRecDepth 100000 in
theorem mX9_most {Γ : Cxt} {X : XT} {Y : YT} {Q : Int32 → XT → YT → Prop} (h : PX9_most X Y Q) : MT Γ yX9_most (.code yX9_most cX9_most 4 (some .int) :: wl) { frames := 5, cells := 0, slots := 0, locals := 114 } [.ref 0] X Y (qI Q) :=
  mt_of (by decide) (Nat.le_of_ble_eq_true rfl) (fun Γ _ O r => kX9_most_s O r (fun _ _ _ g => g) (fun _ _ _ _ g => g) (h (fun a1 X Y => V Γ 19 [(0, .ref 0), (1, .int a1)] [] X Y) (fun a1 a2 X Y => V Γ 25 [(0, .ref 0), (1, .int a1), (2, .int a2)] [] X Y) (fun _ _ _ g => kX9_most_19 O r (fun _ _ _ g => g) (fun _ _ _ _ g => g) g) (fun _ _ _ _ g => kX9_most_25 O r (fun _ _ _ g => g) (fun _ _ _ _ g => g) g)))
theorem dX9_tryToBar_0 : decode cX9_tryToBar 0 = .ok (.aload_n 0, 1) := by decide +kernel
theorem dX9_tryToBar_1 : decode cX9_tryToBar 1 = .ok (.getfield 26, 3) := by decide +kernel
theorem dX9_tryToBar_4 : decode cX9_tryToBar 4 = .ok (.getfield 133, 3) := by decide +kernel
theorem dX9_tryToBar_7 : decode cX9_tryToBar 7 = .ok (.invokestatic 104, 3) := by decide +kernel
theorem dX9_tryToBar_10 : decode cX9_tryToBar 10 = .ok (.istore_n 2, 1) := by decide +kernel
theorem dX9_tryToBar_11 : decode cX9_tryToBar 11 = .ok (.aload_n 0, 1) := by decide +kernel
theorem dX9_tryToBar_12 : decode cX9_tryToBar 12 = .ok (.getfield 58, 3) := by decide +kernel
theorem dX9_tryToBar_15 : decode cX9_tryToBar 15 = .ok (.iload_n 2, 1) := by decide +kernel
theorem dX9_tryToBar_16 : decode cX9_tryToBar 16 = .ok (.iload_n 1, 1) := by decide +kernel
theorem dX9_tryToBar_17 : decode cX9_tryToBar 17 = .ok (.invokevirtual 244, 3) := by decide +kernel
theorem dX9_tryToBar_20 : decode cX9_tryToBar 20 = .ok (.aload_n 0, 1) := by decide +kernel
theorem dX9_tryToBar_21 : decode cX9_tryToBar 21 = .ok (.getfield 75, 3) := by decide +kernel
theorem dX9_tryToBar_24 : decode cX9_tryToBar 24 = .ok (.iand, 1) := by decide +kernel
theorem dX9_tryToBar_25 : decode cX9_tryToBar 25 = .ok (.ifCond .eq 5, 3) := by decide +kernel
theorem dX9_tryToBar_28 : decode cX9_tryToBar 28 = .ok (.iconst 0, 1) := by decide +kernel
theorem dX9_tryToBar_29 : decode cX9_tryToBar 29 = .ok (.ireturn, 1) := by decide +kernel
theorem dX9_tryToBar_30 : decode cX9_tryToBar 30 = .ok (.aload_n 0, 1) := by decide +kernel
theorem dX9_tryToBar_31 : decode cX9_tryToBar 31 = .ok (.getfield 58, 3) := by decide +kernel
theorem dX9_tryToBar_34 : decode cX9_tryToBar 34 = .ok (.iload_n 2, 1) := by decide +kernel
theorem dX9_tryToBar_35 : decode cX9_tryToBar 35 = .ok (.iload_n 1, 1) := by decide +kernel
theorem dX9_tryToBar_36 : decode cX9_tryToBar 36 = .ok (.invokevirtual 286, 3) := by decide +kernel
theorem dX9_tryToBar_39 : decode cX9_tryToBar 39 = .ok (.aload_n 0, 1) := by decide +kernel
theorem dX9_tryToBar_40 : decode cX9_tryToBar 40 = .ok (.getfield 67, 3) := by decide +kernel
theorem dX9_tryToBar_43 : decode cX9_tryToBar 43 = .ok (.sipush 3000, 3) := by decide +kernel
theorem dX9_tryToBar_46 : decode cX9_tryToBar 46 = .ok (.invokevirtual 289, 3) := by decide +kernel
theorem dX9_tryToBar_49 : decode cX9_tryToBar 49 = .ok (.aload_n 0, 1) := by decide +kernel
theorem dX9_tryToBar_50 : decode cX9_tryToBar 50 = .ok (.getfield 67, 3) := by decide +kernel
theorem dX9_tryToBar_53 : decode cX9_tryToBar 53 = .ok (.getfield 209, 3) := by decide +kernel
theorem dX9_tryToBar_56 : decode cX9_tryToBar 56 = .ok (.ifCond .eq 7, 3) := by decide +kernel
theorem dX9_tryToBar_59 : decode cX9_tryToBar 59 = .ok (.sipush (-1005), 3) := by decide +kernel
theorem dX9_tryToBar_62 : decode cX9_tryToBar 62 = .ok (.ireturn, 1) := by decide +kernel
theorem dX9_tryToBar_63 : decode cX9_tryToBar 63 = .ok (.aload_n 0, 1) := by decide +kernel
theorem dX9_tryToBar_64 : decode cX9_tryToBar 64 = .ok (.invokevirtual 266, 3) := by decide +kernel
theorem dX9_tryToBar_67 : decode cX9_tryToBar 67 = .ok (.ifCond .ne 7, 3) := by decide +kernel
theorem dX9_tryToBar_70 : decode cX9_tryToBar 70 = .ok (.iconst 1, 1) := by decide +kernel
theorem dX9_tryToBar_71 : decode cX9_tryToBar 71 = .ok (.goto 4, 3) := by decide +kernel
theorem dX9_tryToBar_74 : decode cX9_tryToBar 74 = .ok (.iconst 0, 1) := by decide +kernel
theorem dX9_tryToBar_75 : decode cX9_tryToBar 75 = .ok (.ireturn, 1) := by decide +kernel
def BX9_tryToBar_s (Q : Int32 → XT → YT → Prop) (p0 : Int32) (X : XT) (Y : YT) : Prop :=
  PX9_allBelow (X 13 10) X Y (fun r1 X2 Y3 => PX0_shownOn r1 p0 X2 Y3 (fun r5 X6 Y7 => (((r5 &&& (X6 0 9)) = 0 → PX0_lay r1 p0 X6 Y7 (fun X11 Y12 => PX5_go 3000 X11 Y12 (fun X15 Y16 => (((X15 39 11) = 0 → PX9_betrayedNow X15 Y16 (fun r19 X20 Y21 => ((¬ r19 = 0 → Q 0 X20 Y21) ∧ (r19 = 0 → Q 1 X20 Y21)))) ∧ (¬ (X15 39 11) = 0 → Q (-1005) X15 Y16))))) ∧ (¬ (r5 &&& (X6 0 9)) = 0 → Q 0 X6 Y7))))
def PX9_tryToBar (p0 : Int32) (X : XT) (Y : YT) (Q : Int32 → XT → YT → Prop) : Prop :=  BX9_tryToBar_s Q p0 X Y
set_option maxHeartbeats 4000000 in
set_option maxRecDepth 100000 in
theorem kX9_tryToBar_s {Γ : Cxt} {Q : Int32 → XT → YT → Prop} (O : Ok Γ RX9 cX9_tryToBar 3 { frames := 4, cells := 0, slots := 0, locals := 93 }) (r : Ret Γ (some .int) (qI Q)) {p0 : Int32} {X : XT} {Y : YT} (h : BX9_tryToBar_s Q p0 X Y) : V Γ 0 [(0, .ref 0), (1, .int p0)] [] X Y := by
  refine v_aload_n O dX9_tryToBar_0 rfl 0 rfl ?_
  refine v_get O dX9_tryToBar_1 fo_X9_26 sh_0 rfl rfl ?_
  refine v_get O dX9_tryToBar_4 fo_X9_133 sh_13 rfl rfl ?_
  refine v_callS (rm' := { frames := 0, cells := 0, slots := 0, locals := 0 }) (As := [.int (X 13 10)]) (st := []) O dX9_tryToBar_7 ci_X9_allBelow ml_X9_104 ms_X9_allBelow ⟨rfl, rfl, (by decide), (by decide)⟩ rfl (Nat.le_of_ble_eq_true rfl) rfl (mX9_allBelow h) (k_I (fun r1 X2 Y3 h4 => ?_))
  refine v_istore_n (lv' := [(2, .int r1), (0, .ref 0), (1, .int p0)]) O dX9_tryToBar_10 rfl (by decide) rfl ?_
  refine v_aload_n O dX9_tryToBar_11 rfl 1 rfl ?_
  refine v_get O dX9_tryToBar_12 fo_X9_58 sh_0 rfl rfl ?_
  refine v_iload_n O dX9_tryToBar_15 rfl 0 rfl ?_
  refine v_iload_n O dX9_tryToBar_16 rfl 2 rfl ?_
  refine v_callV (rm' := { frames := 2, cells := 0, slots := 0, locals := 44 }) (As := [.int r1, .int p0]) (st := []) O dX9_tryToBar_17 ci_X0_shownOn ml_X9_244 mi_X0_shownOn sh_35 rfl ⟨rfl, rfl, (by decide), (by decide)⟩ rfl (Nat.le_of_ble_eq_true rfl) rfl (mX0_shownOn h4) (k_I (fun r5 X6 Y7 h8 => ?_))
  refine v_aload_n O dX9_tryToBar_20 rfl 1 rfl ?_
  refine v_get O dX9_tryToBar_21 fo_X9_75 sh_0 rfl rfl ?_
  refine v_iand O dX9_tryToBar_24 ?_
  refine v_if_eq (tgt := 30) O dX9_tryToBar_25 (by decide) (fun g9 => ?_) (fun g9 => ?_)
  · refine v_aload_n O dX9_tryToBar_30 rfl 1 rfl ?_
    refine v_get O dX9_tryToBar_31 fo_X9_58 sh_0 rfl rfl ?_
    refine v_iload_n O dX9_tryToBar_34 rfl 0 rfl ?_
    refine v_iload_n O dX9_tryToBar_35 rfl 2 rfl ?_
    refine v_callV (rm' := { frames := 3, cells := 0, slots := 0, locals := 66 }) (As := [.int r1, .int p0]) (st := []) O dX9_tryToBar_36 ci_X0_lay ml_X9_286 mi_X0_lay sh_35 rfl ⟨rfl, rfl, (by decide), (by decide)⟩ rfl (Nat.le_of_ble_eq_true rfl) rfl (mX0_lay (h8.1 g9)) (k_V (fun X11 Y12 h13 => ?_))
    refine v_aload_n O dX9_tryToBar_39 rfl 1 rfl ?_
    refine v_get O dX9_tryToBar_40 fo_X9_67 sh_0 rfl rfl ?_
    refine v_sipush O dX9_tryToBar_43 ks_3000 ?_
    refine v_callV (rm' := { frames := 3, cells := 0, slots := 0, locals := 70 }) (As := [.int 3000]) (st := []) O dX9_tryToBar_46 ci_X5_go ml_X9_289 mi_X5_go sh_39 rfl ⟨rfl, rfl, (by decide), (by decide)⟩ rfl (Nat.le_of_ble_eq_true rfl) rfl (mX5_go h13) (k_V (fun X15 Y16 h17 => ?_))
    refine v_aload_n O dX9_tryToBar_49 rfl 1 rfl ?_
    refine v_get O dX9_tryToBar_50 fo_X9_67 sh_0 rfl rfl ?_
    refine v_get O dX9_tryToBar_53 fo_X9_209 sh_39 rfl rfl ?_
    refine v_if_eq (tgt := 63) O dX9_tryToBar_56 (by decide) (fun g18 => ?_) (fun g18 => ?_)
    · refine v_aload_n O dX9_tryToBar_63 rfl 1 rfl ?_
      refine v_callV (rm' := { frames := 2, cells := 0, slots := 0, locals := 43 }) (As := []) (st := []) O dX9_tryToBar_64 ci_X9_betrayedNow ml_X9_266 mi_X9_betrayedNow sh_0 rfl ⟨rfl, rfl, (by decide), (by decide)⟩ rfl (Nat.le_of_ble_eq_true rfl) rfl (mX9_betrayedNow (h17.1 g18)) (k_I (fun r19 X20 Y21 h22 => ?_))
      refine v_if_ne (tgt := 74) O dX9_tryToBar_67 (by decide) (fun g23 => ?_) (fun g23 => ?_)
      · refine v_iconst O dX9_tryToBar_74 kc_0 ?_
        exact v_iret O r dX9_tryToBar_75 ⟨_, rfl, (h22.1 g23)⟩
      · refine v_iconst O dX9_tryToBar_70 kc_1 ?_
        refine v_goto O dX9_tryToBar_71 (tgt := 75) (by decide) ?_
        exact v_iret O r dX9_tryToBar_75 ⟨_, rfl, (h22.2 g23)⟩
    · refine v_sipush O dX9_tryToBar_59 ks_m1005 ?_
      exact v_iret O r dX9_tryToBar_62 ⟨_, rfl, (h17.2 g18)⟩
  · refine v_iconst O dX9_tryToBar_28 kc_0 ?_
    exact v_iret O r dX9_tryToBar_29 ⟨_, rfl, (h8.2 g9)⟩
set_option maxRecDepth 100000 in
theorem mX9_tryToBar {Γ : Cxt} {p0 : Int32} {X : XT} {Y : YT} {Q : Int32 → XT → YT → Prop} (h : PX9_tryToBar p0 X Y Q) : MT Γ yX9_tryToBar (.code yX9_tryToBar cX9_tryToBar 3 (some .int) :: wl) { frames := 4, cells := 0, slots := 0, locals := 93 } [.ref 0, .int p0] X Y (qI Q) :=
  mt_of (by decide) (Nat.le_of_ble_eq_true rfl) (fun Γ _ O r => kX9_tryToBar_s O r  (h ))
theorem dX9_fewest_0 : decode cX9_fewest 0 = .ok (.aload_n 0, 1) := by decide +kernel
theorem dX9_fewest_1 : decode cX9_fewest 1 = .ok (.getfield 58, 3) := by decide +kernel
theorem dX9_fewest_4 : decode cX9_fewest 4 = .ok (.aload_n 0, 1) := by decide +kernel
theorem dX9_fewest_5 : decode cX9_fewest 5 = .ok (.getfield 71, 3) := by decide +kernel
theorem dX9_fewest_8 : decode cX9_fewest 8 = .ok (.invokevirtual 269, 3) := by decide +kernel
theorem dX9_fewest_11 : decode cX9_fewest 11 = .ok (.aload_n 0, 1) := by decide +kernel
theorem dX9_fewest_12 : decode cX9_fewest 12 = .ok (.getfield 26, 3) := by decide +kernel
theorem dX9_fewest_15 : decode cX9_fewest 15 = .ok (.getfield 275, 3) := by decide +kernel
theorem dX9_fewest_18 : decode cX9_fewest 18 = .ok (.bipush 8, 2) := by decide +kernel
theorem dX9_fewest_20 : decode cX9_fewest 20 = .ok (.invokestatic 278, 3) := by decide +kernel
theorem dX9_fewest_23 : decode cX9_fewest 23 = .ok (.istore_n 1, 1) := by decide +kernel
theorem dX9_fewest_24 : decode cX9_fewest 24 = .ok (.iconst 0, 1) := by decide +kernel
theorem dX9_fewest_25 : decode cX9_fewest 25 = .ok (.istore_n 2, 1) := by decide +kernel
theorem dX9_fewest_26 : decode cX9_fewest 26 = .ok (.iload_n 2, 1) := by decide +kernel
theorem dX9_fewest_27 : decode cX9_fewest 27 = .ok (.iload_n 1, 1) := by decide +kernel
theorem dX9_fewest_28 : decode cX9_fewest 28 = .ok (.if_icmp .gt 65, 3) := by decide +kernel
theorem dX9_fewest_31 : decode cX9_fewest 31 = .ok (.iconst 0, 1) := by decide +kernel
theorem dX9_fewest_32 : decode cX9_fewest 32 = .ok (.istore_n 3, 1) := by decide +kernel
theorem dX9_fewest_33 : decode cX9_fewest 33 = .ok (.iload_n 3, 1) := by decide +kernel
theorem dX9_fewest_34 : decode cX9_fewest 34 = .ok (.iload_n 1, 1) := by decide +kernel
theorem dX9_fewest_35 : decode cX9_fewest 35 = .ok (.invokestatic 104, 3) := by decide +kernel
theorem dX9_fewest_38 : decode cX9_fewest 38 = .ok (.if_icmp .gt 49, 3) := by decide +kernel
theorem dX9_fewest_41 : decode cX9_fewest 41 = .ok (.iload_n 3, 1) := by decide +kernel
theorem dX9_fewest_42 : decode cX9_fewest 42 = .ok (.invokestatic 146, 3) := by decide +kernel
theorem dX9_fewest_45 : decode cX9_fewest 45 = .ok (.iload_n 2, 1) := by decide +kernel
theorem dX9_fewest_46 : decode cX9_fewest 46 = .ok (.if_icmp .ne 11, 3) := by decide +kernel
theorem dX9_fewest_49 : decode cX9_fewest 49 = .ok (.aload_n 0, 1) := by decide +kernel
theorem dX9_fewest_50 : decode cX9_fewest 50 = .ok (.iload_n 3, 1) := by decide +kernel
theorem dX9_fewest_51 : decode cX9_fewest 51 = .ok (.invokevirtual 283, 3) := by decide +kernel
theorem dX9_fewest_54 : decode cX9_fewest 54 = .ok (.goto 4, 3) := by decide +kernel
theorem dX9_fewest_57 : decode cX9_fewest 57 = .ok (.iconst 0, 1) := by decide +kernel
theorem dX9_fewest_58 : decode cX9_fewest 58 = .ok (.istore 4, 2) := by decide +kernel
theorem dX9_fewest_60 : decode cX9_fewest 60 = .ok (.iload 4, 2) := by decide +kernel
theorem dX9_fewest_62 : decode cX9_fewest 62 = .ok (.ifCond .eq 19, 3) := by decide +kernel
theorem dX9_fewest_65 : decode cX9_fewest 65 = .ok (.iload 4, 2) := by decide +kernel
theorem dX9_fewest_67 : decode cX9_fewest 67 = .ok (.sipush (-1005), 3) := by decide +kernel
theorem dX9_fewest_70 : decode cX9_fewest 70 = .ok (.if_icmp .ne 9, 3) := by decide +kernel
theorem dX9_fewest_73 : decode cX9_fewest 73 = .ok (.sipush (-1005), 3) := by decide +kernel
theorem dX9_fewest_76 : decode cX9_fewest 76 = .ok (.goto 4, 3) := by decide +kernel
theorem dX9_fewest_79 : decode cX9_fewest 79 = .ok (.iload_n 3, 1) := by decide +kernel
theorem dX9_fewest_80 : decode cX9_fewest 80 = .ok (.ireturn, 1) := by decide +kernel
theorem dX9_fewest_81 : decode cX9_fewest 81 = .ok (.iinc 3 1, 3) := by decide +kernel
theorem dX9_fewest_84 : decode cX9_fewest 84 = .ok (.goto (-51), 3) := by decide +kernel
theorem dX9_fewest_87 : decode cX9_fewest 87 = .ok (.iinc 2 1, 3) := by decide +kernel
theorem dX9_fewest_90 : decode cX9_fewest 90 = .ok (.goto (-64), 3) := by decide +kernel
theorem dX9_fewest_93 : decode cX9_fewest 93 = .ok (.iconst (-1), 1) := by decide +kernel
theorem dX9_fewest_94 : decode cX9_fewest 94 = .ok (.ireturn, 1) := by decide +kernel
def BX9_fewest_26 (I26 : Int32 → Int32 → XT → YT → Prop) (I33 : Int32 → Int32 → Int32 → XT → YT → Prop) (Q : Int32 → XT → YT → Prop) (a1 : Int32) (a2 : Int32) (X : XT) (Y : YT) : Prop :=
  ((a1 < a2 → Q (-1) X Y) ∧ (¬ a1 < a2 → I33 a1 a2 0 X Y))
def BX9_fewest_33 (I26 : Int32 → Int32 → XT → YT → Prop) (I33 : Int32 → Int32 → Int32 → XT → YT → Prop) (Q : Int32 → XT → YT → Prop) (a1 : Int32) (a2 : Int32) (a3 : Int32) (X : XT) (Y : YT) : Prop :=
  PX9_allBelow a1 X Y (fun r1 X2 Y3 => ((r1 < a3 → ∀ w6 : Int32, w6 = a2 + 1 → I26 a1 w6 X2 Y3) ∧ (¬ r1 < a3 → PJ6_bitCount_0f7a4 a3 X2 Y3 (fun r8 X9 Y10 => ((¬ r8 = a2 → (((0 : Int32) = 0 → ∀ w14 : Int32, w14 = a3 + 1 → I33 a1 a2 w14 X9 Y10) ∧ (¬ (0 : Int32) = 0 → ((¬ (0 : Int32) = (-1005) → Q a3 X9 Y10) ∧ ((0 : Int32) = (-1005) → Q (-1005) X9 Y10))))) ∧ (r8 = a2 → PX9_tryToBar a3 X9 Y10 (fun r17 X18 Y19 => ((r17 = 0 → ∀ w22 : Int32, w22 = a3 + 1 → I33 a1 a2 w22 X18 Y19) ∧ (¬ r17 = 0 → ((¬ r17 = (-1005) → Q a3 X18 Y19) ∧ (r17 = (-1005) → Q (-1005) X18 Y19)))))))))))
def BX9_fewest_s (I26 : Int32 → Int32 → XT → YT → Prop) (I33 : Int32 → Int32 → Int32 → XT → YT → Prop) (Q : Int32 → XT → YT → Prop) (X : XT) (Y : YT) : Prop :=
  PX0_measure (X 0 8) X Y (fun X2 Y3 => ∀ w5 : Int32, w5 = (if 8 < (X2 13 12) then 8 else (X2 13 12)) → I26 w5 0 X2 Y3)
def PX9_fewest (X : XT) (Y : YT) (Q : Int32 → XT → YT → Prop) : Prop := ∀ (I26 : Int32 → Int32 → XT → YT → Prop) (I33 : Int32 → Int32 → Int32 → XT → YT → Prop), (∀ (a1 : Int32) (a2 : Int32) (X : XT) (Y : YT), BX9_fewest_26 I26 I33 Q a1 a2 X Y → I26 a1 a2 X Y) → (∀ (a1 : Int32) (a2 : Int32) (a3 : Int32) (X : XT) (Y : YT), BX9_fewest_33 I26 I33 Q a1 a2 a3 X Y → I33 a1 a2 a3 X Y) → BX9_fewest_s I26 I33 Q X Y
set_option maxHeartbeats 4000000 in
set_option maxRecDepth 100000 in
theorem kX9_fewest_26 {Γ : Cxt} {Q : Int32 → XT → YT → Prop} (O : Ok Γ RX9 cX9_fewest 5 { frames := 5, cells := 0, slots := 0, locals := 115 }) (r : Ret Γ (some .int) (qI Q)) {I26 : Int32 → Int32 → XT → YT → Prop} {I33 : Int32 → Int32 → Int32 → XT → YT → Prop} (e26 : ∀ (a1 : Int32) (a2 : Int32) (X : XT) (Y : YT), I26 a1 a2 X Y → V Γ 26 [(0, .ref 0), (1, .int a1), (2, .int a2)] [] X Y) (e33 : ∀ (a1 : Int32) (a2 : Int32) (a3 : Int32) (X : XT) (Y : YT), I33 a1 a2 a3 X Y → V Γ 33 [(0, .ref 0), (1, .int a1), (2, .int a2), (3, .int a3)] [] X Y) {a1 : Int32} {a2 : Int32} {X : XT} {Y : YT} (h : BX9_fewest_26 I26 I33 Q a1 a2 X Y) : V Γ 26 [(0, .ref 0), (1, .int a1), (2, .int a2)] [] X Y := by
  refine v_iload_n O dX9_fewest_26 rfl 2 rfl ?_
  refine v_iload_n O dX9_fewest_27 rfl 1 rfl ?_
  refine v_icmp_gt (tgt := 93) O dX9_fewest_28 (by decide) (fun g1 => ?_) (fun g1 => ?_)
  · refine v_iconst O dX9_fewest_93 kc_m1 ?_
    exact v_iret O r dX9_fewest_94 ⟨_, rfl, (h.1 g1)⟩
  · refine v_iconst O dX9_fewest_31 kc_0 ?_
    refine v_istore_n (lv' := [(3, .int 0), (0, .ref 0), (1, .int a1), (2, .int a2)]) O dX9_fewest_32 rfl (by decide) rfl ?_
    exact v_loc [1, 2, 3, 0] rfl (e33 a1 a2 0 X Y (h.2 g1))
set_option maxHeartbeats 4000000 in
set_option maxRecDepth 100000 in
theorem kX9_fewest_33 {Γ : Cxt} {Q : Int32 → XT → YT → Prop} (O : Ok Γ RX9 cX9_fewest 5 { frames := 5, cells := 0, slots := 0, locals := 115 }) (r : Ret Γ (some .int) (qI Q)) {I26 : Int32 → Int32 → XT → YT → Prop} {I33 : Int32 → Int32 → Int32 → XT → YT → Prop} (e26 : ∀ (a1 : Int32) (a2 : Int32) (X : XT) (Y : YT), I26 a1 a2 X Y → V Γ 26 [(0, .ref 0), (1, .int a1), (2, .int a2)] [] X Y) (e33 : ∀ (a1 : Int32) (a2 : Int32) (a3 : Int32) (X : XT) (Y : YT), I33 a1 a2 a3 X Y → V Γ 33 [(0, .ref 0), (1, .int a1), (2, .int a2), (3, .int a3)] [] X Y) {a1 : Int32} {a2 : Int32} {a3 : Int32} {X : XT} {Y : YT} (h : BX9_fewest_33 I26 I33 Q a1 a2 a3 X Y) : V Γ 33 [(0, .ref 0), (1, .int a1), (2, .int a2), (3, .int a3)] [] X Y := by
  refine v_iload_n O dX9_fewest_33 rfl 3 rfl ?_
  refine v_iload_n O dX9_fewest_34 rfl 1 rfl ?_
  refine v_callS (rm' := { frames := 0, cells := 0, slots := 0, locals := 0 }) (As := [.int a1]) (st := [.int a3]) O dX9_fewest_35 ci_X9_allBelow ml_X9_104 ms_X9_allBelow ⟨rfl, rfl, (by decide), (by decide)⟩ rfl (Nat.le_of_ble_eq_true rfl) rfl (mX9_allBelow h) (k_I (fun r1 X2 Y3 h4 => ?_))
  refine v_icmp_gt (tgt := 87) O dX9_fewest_38 (by decide) (fun g5 => ?_) (fun g5 => ?_)
  · obtain ⟨w6, hw7⟩ : ∃ y : Int32, y = a2 + 1 := ⟨_, rfl⟩
    refine v_iinc (v := w6) (j := 2) O dX9_fewest_87 rfl (by rw [hw7]; exact congrArg _ kc_1) (by decide) (lv' := [(2, .int w6), (0, .ref 0), (1, .int a1), (3, .int a3)]) rfl ?_
    refine v_goto O dX9_fewest_90 (tgt := 26) (by decide) ?_
    exact v_loc [1, 2, 0] rfl (e26 a1 w6 X2 Y3 ((h4.1 g5) w6 hw7))
  · refine v_iload_n O dX9_fewest_41 rfl 3 rfl ?_
    refine v_callS (rm' := { frames := 0, cells := 0, slots := 0, locals := 0 }) (As := [.int a3]) (st := []) O dX9_fewest_42 ci_J6_bitCount_0f7a4 ml_X9_146 ms_J6_bitCount_0f7a4 ⟨rfl, rfl, (by decide), (by decide)⟩ rfl (Nat.le_of_ble_eq_true rfl) rfl (mJ6_bitCount_0f7a4 (h4.2 g5)) (k_I (fun r8 X9 Y10 h11 => ?_))
    refine v_iload_n O dX9_fewest_45 rfl 2 rfl ?_
    refine v_icmp_ne (tgt := 57) O dX9_fewest_46 (by decide) (fun g12 => ?_) (fun g12 => ?_)
    · refine v_iconst O dX9_fewest_57 kc_0 ?_
      refine v_istore (lv' := [(4, .int 0), (0, .ref 0), (1, .int a1), (2, .int a2), (3, .int a3)]) O dX9_fewest_58 (by decide) rfl ?_
      refine v_iload O dX9_fewest_60 0 rfl ?_
      refine v_if_eq (tgt := 81) O dX9_fewest_62 (by decide) (fun g13 => ?_) (fun g13 => ?_)
      · obtain ⟨w14, hw15⟩ : ∃ y : Int32, y = a3 + 1 := ⟨_, rfl⟩
        refine v_iinc (v := w14) (j := 4) O dX9_fewest_81 rfl (by rw [hw15]; exact congrArg _ kc_1) (by decide) (lv' := [(3, .int w14), (4, .int 0), (0, .ref 0), (1, .int a1), (2, .int a2)]) rfl ?_
        refine v_goto O dX9_fewest_84 (tgt := 33) (by decide) ?_
        exact v_loc [2, 3, 4, 0] rfl (e33 a1 a2 w14 X9 Y10 (((h11.1 g12).1 g13) w14 hw15))
      · refine v_iload O dX9_fewest_65 0 rfl ?_
        refine v_sipush O dX9_fewest_67 ks_m1005 ?_
        refine v_icmp_ne (tgt := 79) O dX9_fewest_70 (by decide) (fun g16 => ?_) (fun g16 => ?_)
        · refine v_iload_n O dX9_fewest_79 rfl 4 rfl ?_
          exact v_iret O r dX9_fewest_80 ⟨_, rfl, (((h11.1 g12).2 g13).1 g16)⟩
        · refine v_sipush O dX9_fewest_73 ks_m1005 ?_
          refine v_goto O dX9_fewest_76 (tgt := 80) (by decide) ?_
          exact v_iret O r dX9_fewest_80 ⟨_, rfl, (((h11.1 g12).2 g13).2 g16)⟩
    · refine v_aload_n O dX9_fewest_49 rfl 0 rfl ?_
      refine v_iload_n O dX9_fewest_50 rfl 3 rfl ?_
      refine v_callV (rm' := { frames := 4, cells := 0, slots := 0, locals := 93 }) (As := [.int a3]) (st := []) O dX9_fewest_51 ci_X9_tryToBar ml_X9_283 mi_X9_tryToBar sh_0 rfl ⟨rfl, rfl, (by decide), (by decide)⟩ rfl (Nat.le_of_ble_eq_true rfl) rfl (mX9_tryToBar (h11.2 g12)) (k_I (fun r17 X18 Y19 h20 => ?_))
      refine v_goto O dX9_fewest_54 (tgt := 58) (by decide) ?_
      refine v_istore (lv' := [(4, .int r17), (0, .ref 0), (1, .int a1), (2, .int a2), (3, .int a3)]) O dX9_fewest_58 (by decide) rfl ?_
      refine v_iload O dX9_fewest_60 0 rfl ?_
      refine v_if_eq (tgt := 81) O dX9_fewest_62 (by decide) (fun g21 => ?_) (fun g21 => ?_)
      · obtain ⟨w22, hw23⟩ : ∃ y : Int32, y = a3 + 1 := ⟨_, rfl⟩
        refine v_iinc (v := w22) (j := 4) O dX9_fewest_81 rfl (by rw [hw23]; exact congrArg _ kc_1) (by decide) (lv' := [(3, .int w22), (4, .int r17), (0, .ref 0), (1, .int a1), (2, .int a2)]) rfl ?_
        refine v_goto O dX9_fewest_84 (tgt := 33) (by decide) ?_
        exact v_loc [2, 3, 4, 0] rfl (e33 a1 a2 w22 X18 Y19 ((h20.1 g21) w22 hw23))
      · refine v_iload O dX9_fewest_65 0 rfl ?_
        refine v_sipush O dX9_fewest_67 ks_m1005 ?_
        refine v_icmp_ne (tgt := 79) O dX9_fewest_70 (by decide) (fun g24 => ?_) (fun g24 => ?_)
        · refine v_iload_n O dX9_fewest_79 rfl 4 rfl ?_
          exact v_iret O r dX9_fewest_80 ⟨_, rfl, ((h20.2 g21).1 g24)⟩
        · refine v_sipush O dX9_fewest_73 ks_m1005 ?_
          refine v_goto O dX9_fewest_76 (tgt := 80) (by decide) ?_
          exact v_iret O r dX9_fewest_80 ⟨_, rfl, ((h20.2 g21).2 g24)⟩
set_option maxHeartbeats 4000000 in
set_option maxRecDepth 100000 in
theorem kX9_fewest_s {Γ : Cxt} {Q : Int32 → XT → YT → Prop} (O : Ok Γ RX9 cX9_fewest 5 { frames := 5, cells := 0, slots := 0, locals := 115 }) (r : Ret Γ (some .int) (qI Q)) {I26 : Int32 → Int32 → XT → YT → Prop} {I33 : Int32 → Int32 → Int32 → XT → YT → Prop} (e26 : ∀ (a1 : Int32) (a2 : Int32) (X : XT) (Y : YT), I26 a1 a2 X Y → V Γ 26 [(0, .ref 0), (1, .int a1), (2, .int a2)] [] X Y) (e33 : ∀ (a1 : Int32) (a2 : Int32) (a3 : Int32) (X : XT) (Y : YT), I33 a1 a2 a3 X Y → V Γ 33 [(0, .ref 0), (1, .int a1), (2, .int a2), (3, .int a3)] [] X Y) {X : XT} {Y : YT} (h : BX9_fewest_s I26 I33 Q X Y) : V Γ 0 [(0, .ref 0)] [] X Y := by
  refine v_aload_n O dX9_fewest_0 rfl 0 rfl ?_
  refine v_get O dX9_fewest_1 fo_X9_58 sh_0 rfl rfl ?_
  refine v_aload_n O dX9_fewest_4 rfl 0 rfl ?_
  refine v_get O dX9_fewest_5 fo_X9_71 sh_0 rfl rfl ?_
  refine v_callV (rm' := { frames := 3, cells := 0, slots := 0, locals := 70 }) (As := [.int (X 0 8)]) (st := []) O dX9_fewest_8 ci_X0_measure ml_X9_269 mi_X0_measure sh_35 rfl ⟨rfl, rfl, (by decide), (by decide)⟩ rfl (Nat.le_of_ble_eq_true rfl) rfl (mX0_measure h) (k_V (fun X2 Y3 h4 => ?_))
  refine v_aload_n O dX9_fewest_11 rfl 0 rfl ?_
  refine v_get O dX9_fewest_12 fo_X9_26 sh_0 rfl rfl ?_
  refine v_get O dX9_fewest_15 fo_X9_275 sh_13 rfl rfl ?_
  refine v_bipush O dX9_fewest_18 kb_8 ?_
  refine v_min O dX9_fewest_20 ml_X9_278 (by decide) (by show _ + 13 ≤ _; exact Nat.le_of_ble_eq_true rfl) ?_
  refine v_topi (fun w5 hw6 => ?_)
  refine v_istore_n (lv' := [(1, .int w5), (0, .ref 0)]) O dX9_fewest_23 rfl (by decide) rfl ?_
  refine v_iconst O dX9_fewest_24 kc_0 ?_
  refine v_istore_n (lv' := [(2, .int 0), (1, .int w5), (0, .ref 0)]) O dX9_fewest_25 rfl (by decide) rfl ?_
  exact v_loc [2, 1, 0] rfl (e26 w5 0 X2 Y3 (h4 w5 hw6))
set_option maxRecDepth 100000 in
theorem mX9_fewest {Γ : Cxt} {X : XT} {Y : YT} {Q : Int32 → XT → YT → Prop} (h : PX9_fewest X Y Q) : MT Γ yX9_fewest (.code yX9_fewest cX9_fewest 5 (some .int) :: wl) { frames := 5, cells := 0, slots := 0, locals := 115 } [.ref 0] X Y (qI Q) :=
  mt_of (by decide) (Nat.le_of_ble_eq_true rfl) (fun Γ _ O r => kX9_fewest_s O r (fun _ _ _ _ g => g) (fun _ _ _ _ _ g => g) (h (fun a1 a2 X Y => V Γ 26 [(0, .ref 0), (1, .int a1), (2, .int a2)] [] X Y) (fun a1 a2 a3 X Y => V Γ 33 [(0, .ref 0), (1, .int a1), (2, .int a2), (3, .int a3)] [] X Y) (fun _ _ _ _ g => kX9_fewest_26 O r (fun _ _ _ _ g => g) (fun _ _ _ _ _ g => g) g) (fun _ _ _ _ _ g => kX9_fewest_33 O r (fun _ _ _ _ g => g) (fun _ _ _ _ _ g => g) g)))
theorem dX9_wider_0 : decode cX9_wider 0 = .ok (.aload_n 0, 1) := by decide +kernel
theorem dX9_wider_1 : decode cX9_wider 1 = .ok (.getfield 71, 3) := by decide +kernel
theorem dX9_wider_4 : decode cX9_wider 4 = .ok (.istore_n 1, 1) := by decide +kernel
theorem dX9_wider_5 : decode cX9_wider 5 = .ok (.iload_n 1, 1) := by decide +kernel
theorem dX9_wider_6 : decode cX9_wider 6 = .ok (.bipush 9, 2) := by decide +kernel
theorem dX9_wider_8 : decode cX9_wider 8 = .ok (.if_icmp .gt 68, 3) := by decide +kernel
theorem dX9_wider_11 : decode cX9_wider 11 = .ok (.aload_n 0, 1) := by decide +kernel
theorem dX9_wider_12 : decode cX9_wider 12 = .ok (.getfield 58, 3) := by decide +kernel
theorem dX9_wider_15 : decode cX9_wider 15 = .ok (.iload_n 1, 1) := by decide +kernel
theorem dX9_wider_16 : decode cX9_wider 16 = .ok (.invokevirtual 269, 3) := by decide +kernel
theorem dX9_wider_19 : decode cX9_wider 19 = .ok (.aload_n 0, 1) := by decide +kernel
theorem dX9_wider_20 : decode cX9_wider 20 = .ok (.getfield 58, 3) := by decide +kernel
theorem dX9_wider_23 : decode cX9_wider 23 = .ok (.aload_n 0, 1) := by decide +kernel
theorem dX9_wider_24 : decode cX9_wider 24 = .ok (.getfield 26, 3) := by decide +kernel
theorem dX9_wider_27 : decode cX9_wider 27 = .ok (.getfield 133, 3) := by decide +kernel
theorem dX9_wider_30 : decode cX9_wider 30 = .ok (.invokestatic 104, 3) := by decide +kernel
theorem dX9_wider_33 : decode cX9_wider 33 = .ok (.iconst 0, 1) := by decide +kernel
theorem dX9_wider_34 : decode cX9_wider 34 = .ok (.invokevirtual 286, 3) := by decide +kernel
theorem dX9_wider_37 : decode cX9_wider 37 = .ok (.aload_n 0, 1) := by decide +kernel
theorem dX9_wider_38 : decode cX9_wider 38 = .ok (.getfield 67, 3) := by decide +kernel
theorem dX9_wider_41 : decode cX9_wider 41 = .ok (.sipush 3000, 3) := by decide +kernel
theorem dX9_wider_44 : decode cX9_wider 44 = .ok (.invokevirtual 289, 3) := by decide +kernel
theorem dX9_wider_47 : decode cX9_wider 47 = .ok (.aload_n 0, 1) := by decide +kernel
theorem dX9_wider_48 : decode cX9_wider 48 = .ok (.getfield 67, 3) := by decide +kernel
theorem dX9_wider_51 : decode cX9_wider 51 = .ok (.getfield 209, 3) := by decide +kernel
theorem dX9_wider_54 : decode cX9_wider 54 = .ok (.ifCond .eq 7, 3) := by decide +kernel
theorem dX9_wider_57 : decode cX9_wider 57 = .ok (.sipush (-1005), 3) := by decide +kernel
theorem dX9_wider_60 : decode cX9_wider 60 = .ok (.ireturn, 1) := by decide +kernel
theorem dX9_wider_61 : decode cX9_wider 61 = .ok (.aload_n 0, 1) := by decide +kernel
theorem dX9_wider_62 : decode cX9_wider 62 = .ok (.invokevirtual 266, 3) := by decide +kernel
theorem dX9_wider_65 : decode cX9_wider 65 = .ok (.ifCond .ne 5, 3) := by decide +kernel
theorem dX9_wider_68 : decode cX9_wider 68 = .ok (.iload_n 1, 1) := by decide +kernel
theorem dX9_wider_69 : decode cX9_wider 69 = .ok (.ireturn, 1) := by decide +kernel
theorem dX9_wider_70 : decode cX9_wider 70 = .ok (.iinc 1 1, 3) := by decide +kernel
theorem dX9_wider_73 : decode cX9_wider 73 = .ok (.goto (-68), 3) := by decide +kernel
theorem dX9_wider_76 : decode cX9_wider 76 = .ok (.iconst (-1), 1) := by decide +kernel
theorem dX9_wider_77 : decode cX9_wider 77 = .ok (.ireturn, 1) := by decide +kernel
def BX9_wider_5 (I5 : Int32 → XT → YT → Prop) (Q : Int32 → XT → YT → Prop) (a1 : Int32) (X : XT) (Y : YT) : Prop :=
  ((9 < a1 → Q (-1) X Y) ∧ (¬ 9 < a1 → PX0_measure a1 X Y (fun X3 Y4 => PX9_allBelow (X3 13 10) X3 Y4 (fun r6 X7 Y8 => PX0_lay r6 0 X7 Y8 (fun X11 Y12 => PX5_go 3000 X11 Y12 (fun X15 Y16 => (((X15 39 11) = 0 → PX9_betrayedNow X15 Y16 (fun r19 X20 Y21 => ((¬ r19 = 0 → ∀ w24 : Int32, w24 = a1 + 1 → I5 w24 X20 Y21) ∧ (r19 = 0 → Q a1 X20 Y21)))) ∧ (¬ (X15 39 11) = 0 → Q (-1005) X15 Y16))))))))
def BX9_wider_s (I5 : Int32 → XT → YT → Prop) (Q : Int32 → XT → YT → Prop) (X : XT) (Y : YT) : Prop :=
  ∀ w1 : Int32, w1 = (X 0 8) → I5 w1 X Y
def PX9_wider (X : XT) (Y : YT) (Q : Int32 → XT → YT → Prop) : Prop := ∀ (I5 : Int32 → XT → YT → Prop), (∀ (a1 : Int32) (X : XT) (Y : YT), BX9_wider_5 I5 Q a1 X Y → I5 a1 X Y) → BX9_wider_s I5 Q X Y
set_option maxHeartbeats 4000000 in
set_option maxRecDepth 100000 in
theorem kX9_wider_5 {Γ : Cxt} {Q : Int32 → XT → YT → Prop} (O : Ok Γ RX9 cX9_wider 2 { frames := 4, cells := 0, slots := 0, locals := 93 }) (r : Ret Γ (some .int) (qI Q)) {I5 : Int32 → XT → YT → Prop} (e5 : ∀ (a1 : Int32) (X : XT) (Y : YT), I5 a1 X Y → V Γ 5 [(0, .ref 0), (1, .int a1)] [] X Y) {a1 : Int32} {X : XT} {Y : YT} (h : BX9_wider_5 I5 Q a1 X Y) : V Γ 5 [(0, .ref 0), (1, .int a1)] [] X Y := by
  refine v_iload_n O dX9_wider_5 rfl 1 rfl ?_
  refine v_bipush O dX9_wider_6 kb_9 ?_
  refine v_icmp_gt (tgt := 76) O dX9_wider_8 (by decide) (fun g1 => ?_) (fun g1 => ?_)
  · refine v_iconst O dX9_wider_76 kc_m1 ?_
    exact v_iret O r dX9_wider_77 ⟨_, rfl, (h.1 g1)⟩
  · refine v_aload_n O dX9_wider_11 rfl 0 rfl ?_
    refine v_get O dX9_wider_12 fo_X9_58 sh_0 rfl rfl ?_
    refine v_iload_n O dX9_wider_15 rfl 1 rfl ?_
    refine v_callV (rm' := { frames := 3, cells := 0, slots := 0, locals := 70 }) (As := [.int a1]) (st := []) O dX9_wider_16 ci_X0_measure ml_X9_269 mi_X0_measure sh_35 rfl ⟨rfl, rfl, (by decide), (by decide)⟩ rfl (Nat.le_of_ble_eq_true rfl) rfl (mX0_measure (h.2 g1)) (k_V (fun X3 Y4 h5 => ?_))
    refine v_aload_n O dX9_wider_19 rfl 0 rfl ?_
    refine v_get O dX9_wider_20 fo_X9_58 sh_0 rfl rfl ?_
    refine v_aload_n O dX9_wider_23 rfl 0 rfl ?_
    refine v_get O dX9_wider_24 fo_X9_26 sh_0 rfl rfl ?_
    refine v_get O dX9_wider_27 fo_X9_133 sh_13 rfl rfl ?_
    refine v_callS (rm' := { frames := 0, cells := 0, slots := 0, locals := 0 }) (As := [.int (X3 13 10)]) (st := [.ref 35]) O dX9_wider_30 ci_X9_allBelow ml_X9_104 ms_X9_allBelow ⟨rfl, rfl, (by decide), (by decide)⟩ rfl (Nat.le_of_ble_eq_true rfl) rfl (mX9_allBelow h5) (k_I (fun r6 X7 Y8 h9 => ?_))
    refine v_iconst O dX9_wider_33 kc_0 ?_
    refine v_callV (rm' := { frames := 3, cells := 0, slots := 0, locals := 66 }) (As := [.int r6, .int 0]) (st := []) O dX9_wider_34 ci_X0_lay ml_X9_286 mi_X0_lay sh_35 rfl ⟨rfl, rfl, (by decide), (by decide)⟩ rfl (Nat.le_of_ble_eq_true rfl) rfl (mX0_lay h9) (k_V (fun X11 Y12 h13 => ?_))
    refine v_aload_n O dX9_wider_37 rfl 0 rfl ?_
    refine v_get O dX9_wider_38 fo_X9_67 sh_0 rfl rfl ?_
    refine v_sipush O dX9_wider_41 ks_3000 ?_
    refine v_callV (rm' := { frames := 3, cells := 0, slots := 0, locals := 70 }) (As := [.int 3000]) (st := []) O dX9_wider_44 ci_X5_go ml_X9_289 mi_X5_go sh_39 rfl ⟨rfl, rfl, (by decide), (by decide)⟩ rfl (Nat.le_of_ble_eq_true rfl) rfl (mX5_go h13) (k_V (fun X15 Y16 h17 => ?_))
    refine v_aload_n O dX9_wider_47 rfl 0 rfl ?_
    refine v_get O dX9_wider_48 fo_X9_67 sh_0 rfl rfl ?_
    refine v_get O dX9_wider_51 fo_X9_209 sh_39 rfl rfl ?_
    refine v_if_eq (tgt := 61) O dX9_wider_54 (by decide) (fun g18 => ?_) (fun g18 => ?_)
    · refine v_aload_n O dX9_wider_61 rfl 0 rfl ?_
      refine v_callV (rm' := { frames := 2, cells := 0, slots := 0, locals := 43 }) (As := []) (st := []) O dX9_wider_62 ci_X9_betrayedNow ml_X9_266 mi_X9_betrayedNow sh_0 rfl ⟨rfl, rfl, (by decide), (by decide)⟩ rfl (Nat.le_of_ble_eq_true rfl) rfl (mX9_betrayedNow (h17.1 g18)) (k_I (fun r19 X20 Y21 h22 => ?_))
      refine v_if_ne (tgt := 70) O dX9_wider_65 (by decide) (fun g23 => ?_) (fun g23 => ?_)
      · obtain ⟨w24, hw25⟩ : ∃ y : Int32, y = a1 + 1 := ⟨_, rfl⟩
        refine v_iinc (v := w24) (j := 1) O dX9_wider_70 rfl (by rw [hw25]; exact congrArg _ kc_1) (by decide) (lv' := [(1, .int w24), (0, .ref 0)]) rfl ?_
        refine v_goto O dX9_wider_73 (tgt := 5) (by decide) ?_
        exact v_loc [1, 0] rfl (e5 w24 X20 Y21 ((h22.1 g23) w24 hw25))
      · refine v_iload_n O dX9_wider_68 rfl 1 rfl ?_
        exact v_iret O r dX9_wider_69 ⟨_, rfl, (h22.2 g23)⟩
    · refine v_sipush O dX9_wider_57 ks_m1005 ?_
      exact v_iret O r dX9_wider_60 ⟨_, rfl, (h17.2 g18)⟩
set_option maxHeartbeats 4000000 in
set_option maxRecDepth 100000 in
theorem kX9_wider_s {Γ : Cxt} {Q : Int32 → XT → YT → Prop} (O : Ok Γ RX9 cX9_wider 2 { frames := 4, cells := 0, slots := 0, locals := 93 }) (r : Ret Γ (some .int) (qI Q)) {I5 : Int32 → XT → YT → Prop} (e5 : ∀ (a1 : Int32) (X : XT) (Y : YT), I5 a1 X Y → V Γ 5 [(0, .ref 0), (1, .int a1)] [] X Y) {X : XT} {Y : YT} (h : BX9_wider_s I5 Q X Y) : V Γ 0 [(0, .ref 0)] [] X Y := by
  refine v_aload_n O dX9_wider_0 rfl 0 rfl ?_
  refine v_get O dX9_wider_1 fo_X9_71 sh_0 rfl rfl ?_
  refine v_topi (fun w1 hw2 => ?_)
  refine v_istore_n (lv' := [(1, .int w1), (0, .ref 0)]) O dX9_wider_4 rfl (by decide) rfl ?_
  exact v_loc [1, 0] rfl (e5 w1 X Y (h w1 hw2))
set_option maxRecDepth 100000 in
theorem mX9_wider {Γ : Cxt} {X : XT} {Y : YT} {Q : Int32 → XT → YT → Prop} (h : PX9_wider X Y Q) : MT Γ yX9_wider (.code yX9_wider cX9_wider 2 (some .int) :: wl) { frames := 4, cells := 0, slots := 0, locals := 93 } [.ref 0] X Y (qI Q) :=
  mt_of (by decide) (Nat.le_of_ble_eq_true rfl) (fun Γ _ O r => kX9_wider_s O r (fun _ _ _ g => g) (h (fun a1 X Y => V Γ 5 [(0, .ref 0), (1, .int a1)] [] X Y) (fun _ _ _ g => kX9_wider_5 O r (fun _ _ _ g => g) g)))
theorem dX10_in_0 : decode cX10_in 0 = .ok (.lload_n 0, 1) := by decide +kernel
theorem dX10_in_1 : decode cX10_in 1 = .ok (.lload_n 2, 1) := by decide +kernel
theorem dX10_in_2 : decode cX10_in 2 = .ok (.lcmp, 1) := by decide +kernel
theorem dX10_in_3 : decode cX10_in 3 = .ok (.ifCond .lt 14, 3) := by decide +kernel
theorem dX10_in_6 : decode cX10_in 6 = .ok (.lload_n 0, 1) := by decide +kernel
theorem dX10_in_7 : decode cX10_in 7 = .ok (.lload 4, 2) := by decide +kernel
theorem dX10_in_9 : decode cX10_in 9 = .ok (.lcmp, 1) := by decide +kernel
theorem dX10_in_10 : decode cX10_in 10 = .ok (.ifCond .gt 7, 3) := by decide +kernel
theorem dX10_in_13 : decode cX10_in 13 = .ok (.iconst 1, 1) := by decide +kernel
theorem dX10_in_14 : decode cX10_in 14 = .ok (.goto 4, 3) := by decide +kernel
theorem dX10_in_17 : decode cX10_in 17 = .ok (.iconst 0, 1) := by decide +kernel
theorem dX10_in_18 : decode cX10_in 18 = .ok (.ireturn, 1) := by decide +kernel
def BX10_in_s (Q : Int32 → XT → YT → Prop) (p0 : Int64) (p1 : Int64) (p2 : Int64) (X : XT) (Y : YT) : Prop :=
  (((lg_cmp p0 p1) < 0 → Q 0 X Y) ∧ (¬ (lg_cmp p0 p1) < 0 → ((0 < (lg_cmp p0 p2) → Q 0 X Y) ∧ (¬ 0 < (lg_cmp p0 p2) → Q 1 X Y))))
def PX10_in (p0 : Int64) (p1 : Int64) (p2 : Int64) (X : XT) (Y : YT) (Q : Int32 → XT → YT → Prop) : Prop :=  BX10_in_s Q p0 p1 p2 X Y
set_option maxHeartbeats 4000000 in
set_option maxRecDepth 100000 in
theorem kX10_in_s {Γ : Cxt} {Q : Int32 → XT → YT → Prop} (O : Ok Γ RX10 cX10_in 6 { frames := 0, cells := 0, slots := 0, locals := 0 }) (r : Ret Γ (some .boolean) (qI Q)) {p0 : Int64} {p1 : Int64} {p2 : Int64} {X : XT} {Y : YT} (h : BX10_in_s Q p0 p1 p2 X Y) : V Γ 0 [(0, .long p0), (2, .long p1), (4, .long p2)] [] X Y := by
  refine v_lload_n O dX10_in_0 rfl 0 rfl ?_
  refine v_lload_n O dX10_in_1 rfl 1 rfl ?_
  refine v_lcmp O dX10_in_2 ?_
  refine v_if_lt (tgt := 17) O dX10_in_3 (by decide) (fun g1 => ?_) (fun g1 => ?_)
  · refine v_iconst O dX10_in_17 kc_0 ?_
    exact v_zret O r dX10_in_18 (by decide) ⟨_, rfl, (h.1 g1)⟩
  · refine v_lload_n O dX10_in_6 rfl 0 rfl ?_
    refine v_lload O dX10_in_7 2 rfl ?_
    refine v_lcmp O dX10_in_9 ?_
    refine v_if_gt (tgt := 17) O dX10_in_10 (by decide) (fun g2 => ?_) (fun g2 => ?_)
    · refine v_iconst O dX10_in_17 kc_0 ?_
      exact v_zret O r dX10_in_18 (by decide) ⟨_, rfl, ((h.2 g1).1 g2)⟩
    · refine v_iconst O dX10_in_13 kc_1 ?_
      refine v_goto O dX10_in_14 (tgt := 18) (by decide) ?_
      exact v_zret O r dX10_in_18 (by decide) ⟨_, rfl, ((h.2 g1).2 g2)⟩
set_option maxRecDepth 100000 in
theorem mX10_in {Γ : Cxt} {p0 : Int64} {p1 : Int64} {p2 : Int64} {X : XT} {Y : YT} {Q : Int32 → XT → YT → Prop} (h : PX10_in p0 p1 p2 X Y Q) : MT Γ yX10_in (.code yX10_in cX10_in 6 (some .boolean) :: wl) { frames := 0, cells := 0, slots := 0, locals := 0 } [.long p0, .long p1, .long p2] X Y (qI Q) :=
  mt_of (by decide) (Nat.le_of_ble_eq_true rfl) (fun Γ _ O r => kX10_in_s O r  (h ))
theorem dX10_one_0 : decode cX10_one 0 = .ok (.iload_n 0, 1) := by decide +kernel
theorem dX10_one_1 : decode cX10_one 1 = .ok (.ifCond .eq 7, 3) := by decide +kernel
theorem dX10_one_4 : decode cX10_one 4 = .ok (.iconst 1, 1) := by decide +kernel
theorem dX10_one_5 : decode cX10_one 5 = .ok (.goto 4, 3) := by decide +kernel
theorem dX10_one_8 : decode cX10_one 8 = .ok (.iconst 0, 1) := by decide +kernel
theorem dX10_one_9 : decode cX10_one 9 = .ok (.ireturn, 1) := by decide +kernel
def BX10_one_s (Q : Int32 → XT → YT → Prop) (p0 : Int32) (X : XT) (Y : YT) : Prop :=
  ((p0 = 0 → Q 0 X Y) ∧ (¬ p0 = 0 → Q 1 X Y))
def PX10_one (p0 : Int32) (X : XT) (Y : YT) (Q : Int32 → XT → YT → Prop) : Prop :=  BX10_one_s Q p0 X Y
set_option maxHeartbeats 4000000 in
set_option maxRecDepth 100000 in
theorem kX10_one_s {Γ : Cxt} {Q : Int32 → XT → YT → Prop} (O : Ok Γ RX10 cX10_one 1 { frames := 0, cells := 0, slots := 0, locals := 0 }) (r : Ret Γ (some .int) (qI Q)) {p0 : Int32} {X : XT} {Y : YT} (h : BX10_one_s Q p0 X Y) : V Γ 0 [(0, .int p0)] [] X Y := by
  refine v_iload_n O dX10_one_0 rfl 0 rfl ?_
  refine v_if_eq (tgt := 8) O dX10_one_1 (by decide) (fun g1 => ?_) (fun g1 => ?_)
  · refine v_iconst O dX10_one_8 kc_0 ?_
    exact v_iret O r dX10_one_9 ⟨_, rfl, (h.1 g1)⟩
  · refine v_iconst O dX10_one_4 kc_1 ?_
    refine v_goto O dX10_one_5 (tgt := 9) (by decide) ?_
    exact v_iret O r dX10_one_9 ⟨_, rfl, (h.2 g1)⟩
set_option maxRecDepth 100000 in
theorem mX10_one {Γ : Cxt} {p0 : Int32} {X : XT} {Y : YT} {Q : Int32 → XT → YT → Prop} (h : PX10_one p0 X Y Q) : MT Γ yX10_one (.code yX10_one cX10_one 1 (some .int) :: wl) { frames := 0, cells := 0, slots := 0, locals := 0 } [.int p0] X Y (qI Q) :=
  mt_of (by decide) (Nat.le_of_ble_eq_true rfl) (fun Γ _ O r => kX10_one_s O r  (h ))
theorem dX10_ones_0 : decode cX10_ones 0 = .ok (.iconst 0, 1) := by decide +kernel
theorem dX10_ones_1 : decode cX10_ones 1 = .ok (.istore_n 1, 1) := by decide +kernel
theorem dX10_ones_2 : decode cX10_ones 2 = .ok (.iconst 0, 1) := by decide +kernel
theorem dX10_ones_3 : decode cX10_ones 3 = .ok (.istore_n 2, 1) := by decide +kernel
theorem dX10_ones_4 : decode cX10_ones 4 = .ok (.iload_n 2, 1) := by decide +kernel
theorem dX10_ones_5 : decode cX10_ones 5 = .ok (.bipush 20, 2) := by decide +kernel
theorem dX10_ones_7 : decode cX10_ones 7 = .ok (.if_icmp .ge 17, 3) := by decide +kernel
theorem dX10_ones_10 : decode cX10_ones 10 = .ok (.iload_n 1, 1) := by decide +kernel
theorem dX10_ones_11 : decode cX10_ones 11 = .ok (.iload_n 0, 1) := by decide +kernel
theorem dX10_ones_12 : decode cX10_ones 12 = .ok (.iload_n 2, 1) := by decide +kernel
theorem dX10_ones_13 : decode cX10_ones 13 = .ok (.ishr, 1) := by decide +kernel
theorem dX10_ones_14 : decode cX10_ones 14 = .ok (.iconst 1, 1) := by decide +kernel
theorem dX10_ones_15 : decode cX10_ones 15 = .ok (.iand, 1) := by decide +kernel
theorem dX10_ones_16 : decode cX10_ones 16 = .ok (.iadd, 1) := by decide +kernel
theorem dX10_ones_17 : decode cX10_ones 17 = .ok (.istore_n 1, 1) := by decide +kernel
theorem dX10_ones_18 : decode cX10_ones 18 = .ok (.iinc 2 1, 3) := by decide +kernel
theorem dX10_ones_21 : decode cX10_ones 21 = .ok (.goto (-17), 3) := by decide +kernel
theorem dX10_ones_24 : decode cX10_ones 24 = .ok (.iload_n 1, 1) := by decide +kernel
theorem dX10_ones_25 : decode cX10_ones 25 = .ok (.ireturn, 1) := by decide +kernel
def BX10_ones_4 (I4 : Int32 → Int32 → Int32 → XT → YT → Prop) (Q : Int32 → XT → YT → Prop) (a0 : Int32) (a1 : Int32) (a2 : Int32) (X : XT) (Y : YT) : Prop :=
  ((20 ≤ a2 → Q a1 X Y) ∧ (¬ 20 ≤ a2 → ∀ w2 : Int32, w2 = (a1 + ((a0 >>> (a2 &&& 31)) &&& 1)) → ∀ w4 : Int32, w4 = a2 + 1 → I4 a0 w2 w4 X Y))
def BX10_ones_s (I4 : Int32 → Int32 → Int32 → XT → YT → Prop) (Q : Int32 → XT → YT → Prop) (p0 : Int32) (X : XT) (Y : YT) : Prop :=
  I4 p0 0 0 X Y
def PX10_ones (p0 : Int32) (X : XT) (Y : YT) (Q : Int32 → XT → YT → Prop) : Prop := ∀ (I4 : Int32 → Int32 → Int32 → XT → YT → Prop), (∀ (a0 : Int32) (a1 : Int32) (a2 : Int32) (X : XT) (Y : YT), BX10_ones_4 I4 Q a0 a1 a2 X Y → I4 a0 a1 a2 X Y) → BX10_ones_s I4 Q p0 X Y
set_option maxHeartbeats 4000000 in
set_option maxRecDepth 100000 in
theorem kX10_ones_4 {Γ : Cxt} {Q : Int32 → XT → YT → Prop} (O : Ok Γ RX10 cX10_ones 3 { frames := 0, cells := 0, slots := 0, locals := 0 }) (r : Ret Γ (some .int) (qI Q)) {I4 : Int32 → Int32 → Int32 → XT → YT → Prop} (e4 : ∀ (a0 : Int32) (a1 : Int32) (a2 : Int32) (X : XT) (Y : YT), I4 a0 a1 a2 X Y → V Γ 4 [(0, .int a0), (1, .int a1), (2, .int a2)] [] X Y) {a0 : Int32} {a1 : Int32} {a2 : Int32} {X : XT} {Y : YT} (h : BX10_ones_4 I4 Q a0 a1 a2 X Y) : V Γ 4 [(0, .int a0), (1, .int a1), (2, .int a2)] [] X Y := by
  refine v_iload_n O dX10_ones_4 rfl 2 rfl ?_
  refine v_bipush O dX10_ones_5 kb_20 ?_
  refine v_icmp_ge (tgt := 24) O dX10_ones_7 (by decide) (fun g1 => ?_) (fun g1 => ?_)
  · refine v_iload_n O dX10_ones_24 rfl 1 rfl ?_
    exact v_iret O r dX10_ones_25 ⟨_, rfl, (h.1 g1)⟩
  · refine v_iload_n O dX10_ones_10 rfl 1 rfl ?_
    refine v_iload_n O dX10_ones_11 rfl 0 rfl ?_
    refine v_iload_n O dX10_ones_12 rfl 2 rfl ?_
    refine v_ishr O dX10_ones_13 ?_
    refine v_iconst O dX10_ones_14 kc_1 ?_
    refine v_iand O dX10_ones_15 ?_
    refine v_iadd O dX10_ones_16 ?_
    refine v_topi (fun w2 hw3 => ?_)
    refine v_istore_n (lv' := [(1, .int w2), (0, .int a0), (2, .int a2)]) O dX10_ones_17 rfl (by decide) rfl ?_
    obtain ⟨w4, hw5⟩ : ∃ y : Int32, y = a2 + 1 := ⟨_, rfl⟩
    refine v_iinc (v := w4) (j := 2) O dX10_ones_18 rfl (by rw [hw5]; exact congrArg _ kc_1) (by decide) (lv' := [(2, .int w4), (1, .int w2), (0, .int a0)]) rfl ?_
    refine v_goto O dX10_ones_21 (tgt := 4) (by decide) ?_
    exact v_loc [2, 1, 0] rfl (e4 a0 w2 w4 X Y (((h.2 g1) w2 hw3) w4 hw5))
set_option maxHeartbeats 4000000 in
set_option maxRecDepth 100000 in
theorem kX10_ones_s {Γ : Cxt} {Q : Int32 → XT → YT → Prop} (O : Ok Γ RX10 cX10_ones 3 { frames := 0, cells := 0, slots := 0, locals := 0 }) (r : Ret Γ (some .int) (qI Q)) {I4 : Int32 → Int32 → Int32 → XT → YT → Prop} (e4 : ∀ (a0 : Int32) (a1 : Int32) (a2 : Int32) (X : XT) (Y : YT), I4 a0 a1 a2 X Y → V Γ 4 [(0, .int a0), (1, .int a1), (2, .int a2)] [] X Y) {p0 : Int32} {X : XT} {Y : YT} (h : BX10_ones_s I4 Q p0 X Y) : V Γ 0 [(0, .int p0)] [] X Y := by
  refine v_iconst O dX10_ones_0 kc_0 ?_
  refine v_istore_n (lv' := [(1, .int 0), (0, .int p0)]) O dX10_ones_1 rfl (by decide) rfl ?_
  refine v_iconst O dX10_ones_2 kc_0 ?_
  refine v_istore_n (lv' := [(2, .int 0), (1, .int 0), (0, .int p0)]) O dX10_ones_3 rfl (by decide) rfl ?_
  exact v_loc [2, 1, 0] rfl (e4 p0 0 0 X Y h)
set_option maxRecDepth 100000 in
theorem mX10_ones {Γ : Cxt} {p0 : Int32} {X : XT} {Y : YT} {Q : Int32 → XT → YT → Prop} (h : PX10_ones p0 X Y Q) : MT Γ yX10_ones (.code yX10_ones cX10_ones 3 (some .int) :: wl) { frames := 0, cells := 0, slots := 0, locals := 0 } [.int p0] X Y (qI Q) :=
  mt_of (by decide) (Nat.le_of_ble_eq_true rfl) (fun Γ _ O r => kX10_ones_s O r (fun _ _ _ _ _ g => g) (h (fun a0 a1 a2 X Y => V Γ 4 [(0, .int a0), (1, .int a1), (2, .int a2)] [] X Y) (fun _ _ _ _ _ g => kX10_ones_4 O r (fun _ _ _ _ _ g => g) g)))
theorem dX10_wide_0 : decode cX10_wide 0 = .ok (.iload_n 1, 1) := by decide +kernel
theorem dX10_wide_1 : decode cX10_wide 1 = .ok (.i2l, 1) := by decide +kernel
theorem dX10_wide_2 : decode cX10_wide 2 = .ok (.lconst 0, 1) := by decide +kernel
theorem dX10_wide_3 : decode cX10_wide 3 = .ok (.lconst 1, 1) := by decide +kernel
theorem dX10_wide_4 : decode cX10_wide 4 = .ok (.invokestatic 108, 3) := by decide +kernel
theorem dX10_wide_7 : decode cX10_wide 7 = .ok (.ifCond .eq 27, 3) := by decide +kernel
theorem dX10_wide_10 : decode cX10_wide 10 = .ok (.iload_n 2, 1) := by decide +kernel
theorem dX10_wide_11 : decode cX10_wide 11 = .ok (.i2l, 1) := by decide +kernel
theorem dX10_wide_12 : decode cX10_wide 12 = .ok (.lconst 0, 1) := by decide +kernel
theorem dX10_wide_13 : decode cX10_wide 13 = .ok (.ldc2_w 112, 3) := by decide +kernel
theorem dX10_wide_16 : decode cX10_wide 16 = .ok (.invokestatic 108, 3) := by decide +kernel
theorem dX10_wide_19 : decode cX10_wide 19 = .ok (.ifCond .eq 15, 3) := by decide +kernel
theorem dX10_wide_22 : decode cX10_wide 22 = .ok (.iload_n 3, 1) := by decide +kernel
theorem dX10_wide_23 : decode cX10_wide 23 = .ok (.i2l, 1) := by decide +kernel
theorem dX10_wide_24 : decode cX10_wide 24 = .ok (.lconst 1, 1) := by decide +kernel
theorem dX10_wide_25 : decode cX10_wide 25 = .ok (.ldc2_w 114, 3) := by decide +kernel
theorem dX10_wide_28 : decode cX10_wide 28 = .ok (.invokestatic 108, 3) := by decide +kernel
theorem dX10_wide_31 : decode cX10_wide 31 = .ok (.ifCond .ne 7, 3) := by decide +kernel
theorem dX10_wide_34 : decode cX10_wide 34 = .ok (.sipush (-1002), 3) := by decide +kernel
theorem dX10_wide_37 : decode cX10_wide 37 = .ok (.ireturn, 1) := by decide +kernel
theorem dX10_wide_38 : decode cX10_wide 38 = .ok (.aload_n 0, 1) := by decide +kernel
theorem dX10_wide_39 : decode cX10_wide 39 = .ok (.getfield 7, 3) := by decide +kernel
theorem dX10_wide_42 : decode cX10_wide 42 = .ok (.bipush 26, 2) := by decide +kernel
theorem dX10_wide_44 : decode cX10_wide 44 = .ok (.iload_n 1, 1) := by decide +kernel
theorem dX10_wide_45 : decode cX10_wide 45 = .ok (.imul, 1) := by decide +kernel
theorem dX10_wide_46 : decode cX10_wide 46 = .ok (.iload_n 2, 1) := by decide +kernel
theorem dX10_wide_47 : decode cX10_wide 47 = .ok (.iadd, 1) := by decide +kernel
theorem dX10_wide_48 : decode cX10_wide 48 = .ok (.iaload, 1) := by decide +kernel
theorem dX10_wide_49 : decode cX10_wide 49 = .ok (.istore 4, 2) := by decide +kernel
theorem dX10_wide_51 : decode cX10_wide 51 = .ok (.aload_n 0, 1) := by decide +kernel
theorem dX10_wide_52 : decode cX10_wide 52 = .ok (.getfield 7, 3) := by decide +kernel
theorem dX10_wide_55 : decode cX10_wide 55 = .ok (.bipush 26, 2) := by decide +kernel
theorem dX10_wide_57 : decode cX10_wide 57 = .ok (.iload_n 1, 1) := by decide +kernel
theorem dX10_wide_58 : decode cX10_wide 58 = .ok (.imul, 1) := by decide +kernel
theorem dX10_wide_59 : decode cX10_wide 59 = .ok (.iload_n 2, 1) := by decide +kernel
theorem dX10_wide_60 : decode cX10_wide 60 = .ok (.iadd, 1) := by decide +kernel
theorem dX10_wide_61 : decode cX10_wide 61 = .ok (.iload_n 3, 1) := by decide +kernel
theorem dX10_wide_62 : decode cX10_wide 62 = .ok (.iastore, 1) := by decide +kernel
theorem dX10_wide_63 : decode cX10_wide 63 = .ok (.iload 4, 2) := by decide +kernel
theorem dX10_wide_65 : decode cX10_wide 65 = .ok (.ireturn, 1) := by decide +kernel
def BX10_wide_s (Q : Int32 → XT → YT → Prop) (p0 : Int32) (p1 : Int32) (p2 : Int32) (X : XT) (Y : YT) : Prop :=
  PX10_in (p0.toInt64) (0 : Int64) (1 : Int64) X Y (fun r1 X2 Y3 => ((r1 = 0 → Q (-1002) X2 Y3) ∧ (¬ r1 = 0 → PX10_in (p1.toInt64) (0 : Int64) (25 : Int64) X2 Y3 (fun r6 X7 Y8 => ((r6 = 0 → Q (-1002) X7 Y8) ∧ (¬ r6 = 0 → PX10_in (p2.toInt64) (1 : Int64) (20 : Int64) X7 Y8 (fun r11 X12 Y13 => ((¬ r11 = 0 → vp_in ((26 * p0) + p1) 52 ∧ ∀ w16 : Int32, w16 = (X12 49 ((26 * p0) + p1).toNatClampNeg) → vp_in ((26 * p0) + p1) 52 ∧ ∀ X18 : XT, X18 = sX X12 49 ((26 * p0) + p1).toNatClampNeg p2 → Q w16 X18 Y13) ∧ (r11 = 0 → Q (-1002) X12 Y13)))))))))
def PX10_wide (p0 : Int32) (p1 : Int32) (p2 : Int32) (X : XT) (Y : YT) (Q : Int32 → XT → YT → Prop) : Prop :=  BX10_wide_s Q p0 p1 p2 X Y
set_option maxHeartbeats 4000000 in
set_option maxRecDepth 100000 in
theorem kX10_wide_s {Γ : Cxt} {Q : Int32 → XT → YT → Prop} (O : Ok Γ RX10 cX10_wide 5 { frames := 1, cells := 0, slots := 0, locals := 25 }) (r : Ret Γ (some .int) (qI Q)) {p0 : Int32} {p1 : Int32} {p2 : Int32} {X : XT} {Y : YT} (h : BX10_wide_s Q p0 p1 p2 X Y) : V Γ 0 [(0, .ref 48), (1, .int p0), (2, .int p1), (3, .int p2)] [] X Y := by
  refine v_iload_n O dX10_wide_0 rfl 1 rfl ?_
  refine v_i2l O dX10_wide_1 ?_
  refine v_lconst O dX10_wide_2 (v := 0) (by decide) ?_
  refine v_lconst O dX10_wide_3 (v := 1) (by decide) ?_
  refine v_callS (rm' := { frames := 0, cells := 0, slots := 0, locals := 0 }) (As := [.long (p0.toInt64), .long (0 : Int64), .long (1 : Int64)]) (st := []) O dX10_wide_4 ci_X10_in ml_X10_108 ms_X10_in ⟨rfl, rfl, (by decide), (by decide)⟩ rfl (Nat.le_of_ble_eq_true rfl) rfl (mX10_in h) (k_I (fun r1 X2 Y3 h4 => ?_))
  refine v_if_eq (tgt := 34) O dX10_wide_7 (by decide) (fun g5 => ?_) (fun g5 => ?_)
  · refine v_sipush O dX10_wide_34 ks_m1002 ?_
    exact v_iret O r dX10_wide_37 ⟨_, rfl, (h4.1 g5)⟩
  · refine v_iload_n O dX10_wide_10 rfl 2 rfl ?_
    refine v_i2l O dX10_wide_11 ?_
    refine v_lconst O dX10_wide_12 (v := 0) (by decide) ?_
    refine v_ldc2 O dX10_wide_13 kl_X10_112 ?_
    refine v_callS (rm' := { frames := 0, cells := 0, slots := 0, locals := 0 }) (As := [.long (p1.toInt64), .long (0 : Int64), .long (25 : Int64)]) (st := []) O dX10_wide_16 ci_X10_in ml_X10_108 ms_X10_in ⟨rfl, rfl, (by decide), (by decide)⟩ rfl (Nat.le_of_ble_eq_true rfl) rfl (mX10_in (h4.2 g5)) (k_I (fun r6 X7 Y8 h9 => ?_))
    refine v_if_eq (tgt := 34) O dX10_wide_19 (by decide) (fun g10 => ?_) (fun g10 => ?_)
    · refine v_sipush O dX10_wide_34 ks_m1002 ?_
      exact v_iret O r dX10_wide_37 ⟨_, rfl, (h9.1 g10)⟩
    · refine v_iload_n O dX10_wide_22 rfl 3 rfl ?_
      refine v_i2l O dX10_wide_23 ?_
      refine v_lconst O dX10_wide_24 (v := 1) (by decide) ?_
      refine v_ldc2 O dX10_wide_25 kl_X10_114 ?_
      refine v_callS (rm' := { frames := 0, cells := 0, slots := 0, locals := 0 }) (As := [.long (p2.toInt64), .long (1 : Int64), .long (20 : Int64)]) (st := []) O dX10_wide_28 ci_X10_in ml_X10_108 ms_X10_in ⟨rfl, rfl, (by decide), (by decide)⟩ rfl (Nat.le_of_ble_eq_true rfl) rfl (mX10_in (h9.2 g10)) (k_I (fun r11 X12 Y13 h14 => ?_))
      refine v_if_ne (tgt := 38) O dX10_wide_31 (by decide) (fun g15 => ?_) (fun g15 => ?_)
      · refine v_aload_n O dX10_wide_38 rfl 0 rfl ?_
        refine v_get O dX10_wide_39 fo_X10_7 sh_48 rfl rfl ?_
        refine v_bipush O dX10_wide_42 kb_26 ?_
        refine v_iload_n O dX10_wide_44 rfl 1 rfl ?_
        refine v_imul O dX10_wide_45 ?_
        refine v_iload_n O dX10_wide_46 rfl 2 rfl ?_
        refine v_iadd O dX10_wide_47 ?_
        refine v_iald O dX10_wide_48 sh_49 (h14.1 g15).1 ?_
        refine v_topi (fun w16 hw17 => ?_)
        refine v_istore (lv' := [(4, .int w16), (0, .ref 48), (1, .int p0), (2, .int p1), (3, .int p2)]) O dX10_wide_49 (by decide) rfl ?_
        refine v_aload_n O dX10_wide_51 rfl 1 rfl ?_
        refine v_get O dX10_wide_52 fo_X10_7 sh_48 rfl rfl ?_
        refine v_bipush O dX10_wide_55 kb_26 ?_
        refine v_iload_n O dX10_wide_57 rfl 2 rfl ?_
        refine v_imul O dX10_wide_58 ?_
        refine v_iload_n O dX10_wide_59 rfl 3 rfl ?_
        refine v_iadd O dX10_wide_60 ?_
        refine v_iload_n O dX10_wide_61 rfl 4 rfl ?_
        refine v_iast O dX10_wide_62 sh_49 ((h14.1 g15).2 w16 hw17).1 ?_
        refine v_nmX (fun X18 hX19 => ?_)
        refine v_iload O dX10_wide_63 0 rfl ?_
        exact v_iret O r dX10_wide_65 ⟨_, rfl, (((h14.1 g15).2 w16 hw17).2 X18 hX19)⟩
      · refine v_sipush O dX10_wide_34 ks_m1002 ?_
        exact v_iret O r dX10_wide_37 ⟨_, rfl, (h14.2 g15)⟩
set_option maxRecDepth 100000 in
theorem mX10_wide {Γ : Cxt} {p0 : Int32} {p1 : Int32} {p2 : Int32} {X : XT} {Y : YT} {Q : Int32 → XT → YT → Prop} (h : PX10_wide p0 p1 p2 X Y Q) : MT Γ yX10_wide (.code yX10_wide cX10_wide 5 (some .int) :: wl) { frames := 1, cells := 0, slots := 0, locals := 25 } [.ref 48, .int p0, .int p1, .int p2] X Y (qI Q) :=
  mt_of (by decide) (Nat.le_of_ble_eq_true rfl) (fun Γ _ O r => kX10_wide_s O r  (h ))
theorem dX10_feed_0 : decode cX10_feed 0 = .ok (.iload_n 1, 1) := by decide +kernel
theorem dX10_feed_1 : decode cX10_feed 1 = .ok (.i2l, 1) := by decide +kernel
theorem dX10_feed_2 : decode cX10_feed 2 = .ok (.lconst 1, 1) := by decide +kernel
theorem dX10_feed_3 : decode cX10_feed 3 = .ok (.ldc2_w 116, 3) := by decide +kernel
theorem dX10_feed_6 : decode cX10_feed 6 = .ok (.invokestatic 108, 3) := by decide +kernel
theorem dX10_feed_9 : decode cX10_feed 9 = .ok (.ifCond .ne 7, 3) := by decide +kernel
theorem dX10_feed_12 : decode cX10_feed 12 = .ok (.sipush (-1002), 3) := by decide +kernel
theorem dX10_feed_15 : decode cX10_feed 15 = .ok (.ireturn, 1) := by decide +kernel
theorem dX10_feed_16 : decode cX10_feed 16 = .ok (.aload_n 0, 1) := by decide +kernel
theorem dX10_feed_17 : decode cX10_feed 17 = .ok (.getfield 118, 3) := by decide +kernel
theorem dX10_feed_20 : decode cX10_feed 20 = .ok (.iload_n 1, 1) := by decide +kernel
theorem dX10_feed_21 : decode cX10_feed 21 = .ok (.iadd, 1) := by decide +kernel
theorem dX10_feed_22 : decode cX10_feed 22 = .ok (.bipush 120, 2) := by decide +kernel
theorem dX10_feed_24 : decode cX10_feed 24 = .ok (.if_icmp .le 7, 3) := by decide +kernel
theorem dX10_feed_27 : decode cX10_feed 27 = .ok (.sipush (-1004), 3) := by decide +kernel
theorem dX10_feed_30 : decode cX10_feed 30 = .ok (.ireturn, 1) := by decide +kernel
theorem dX10_feed_31 : decode cX10_feed 31 = .ok (.iload_n 1, 1) := by decide +kernel
theorem dX10_feed_32 : decode cX10_feed 32 = .ok (.iconst 1, 1) := by decide +kernel
theorem dX10_feed_33 : decode cX10_feed 33 = .ok (.isub, 1) := by decide +kernel
theorem dX10_feed_34 : decode cX10_feed 34 = .ok (.istore 4, 2) := by decide +kernel
theorem dX10_feed_36 : decode cX10_feed 36 = .ok (.iload 4, 2) := by decide +kernel
theorem dX10_feed_38 : decode cX10_feed 38 = .ok (.ifCond .lt 40, 3) := by decide +kernel
theorem dX10_feed_41 : decode cX10_feed 41 = .ok (.aload_n 0, 1) := by decide +kernel
theorem dX10_feed_42 : decode cX10_feed 42 = .ok (.getfield 34, 3) := by decide +kernel
theorem dX10_feed_45 : decode cX10_feed 45 = .ok (.aload_n 0, 1) := by decide +kernel
theorem dX10_feed_46 : decode cX10_feed 46 = .ok (.getfield 118, 3) := by decide +kernel
theorem dX10_feed_49 : decode cX10_feed 49 = .ok (.lload_n 2, 1) := by decide +kernel
theorem dX10_feed_50 : decode cX10_feed 50 = .ok (.bipush 8, 2) := by decide +kernel
theorem dX10_feed_52 : decode cX10_feed 52 = .ok (.iload 4, 2) := by decide +kernel
theorem dX10_feed_54 : decode cX10_feed 54 = .ok (.imul, 1) := by decide +kernel
theorem dX10_feed_55 : decode cX10_feed 55 = .ok (.lshr, 1) := by decide +kernel
theorem dX10_feed_56 : decode cX10_feed 56 = .ok (.ldc2_w 121, 3) := by decide +kernel
theorem dX10_feed_59 : decode cX10_feed 59 = .ok (.land, 1) := by decide +kernel
theorem dX10_feed_60 : decode cX10_feed 60 = .ok (.l2i, 1) := by decide +kernel
theorem dX10_feed_61 : decode cX10_feed 61 = .ok (.iastore, 1) := by decide +kernel
theorem dX10_feed_62 : decode cX10_feed 62 = .ok (.aload_n 0, 1) := by decide +kernel
theorem dX10_feed_63 : decode cX10_feed 63 = .ok (.dup, 1) := by decide +kernel
theorem dX10_feed_64 : decode cX10_feed 64 = .ok (.getfield 118, 3) := by decide +kernel
theorem dX10_feed_67 : decode cX10_feed 67 = .ok (.iconst 1, 1) := by decide +kernel
theorem dX10_feed_68 : decode cX10_feed 68 = .ok (.iadd, 1) := by decide +kernel
theorem dX10_feed_69 : decode cX10_feed 69 = .ok (.putfield 118, 3) := by decide +kernel
theorem dX10_feed_72 : decode cX10_feed 72 = .ok (.iinc 4 (-1), 3) := by decide +kernel
theorem dX10_feed_75 : decode cX10_feed 75 = .ok (.goto (-39), 3) := by decide +kernel
theorem dX10_feed_78 : decode cX10_feed 78 = .ok (.aload_n 0, 1) := by decide +kernel
theorem dX10_feed_79 : decode cX10_feed 79 = .ok (.getfield 118, 3) := by decide +kernel
theorem dX10_feed_82 : decode cX10_feed 82 = .ok (.ireturn, 1) := by decide +kernel
def BX10_feed_36 (I36 : Int64 → Int32 → XT → YT → Prop) (Q : Int32 → XT → YT → Prop) (a2 : Int64) (a4 : Int32) (X : XT) (Y : YT) : Prop :=
  ((a4 < 0 → Q (X 48 12) X Y) ∧ (¬ a4 < 0 → vp_in (X 48 12) 120 ∧ ∀ X2 : XT, X2 = sX X 57 (X 48 12).toNatClampNeg (((a2 >>> ((8 * a4).toInt64 &&& 63)) &&& (255 : Int64)).toInt32) → ∀ w4 : Int32, w4 = a4 + (-1) → I36 a2 w4 (sX X2 48 12 ((X2 48 12) + 1)) Y))
def BX10_feed_s (I36 : Int64 → Int32 → XT → YT → Prop) (Q : Int32 → XT → YT → Prop) (p0 : Int32) (p1 : Int64) (X : XT) (Y : YT) : Prop :=
  PX10_in (p0.toInt64) (1 : Int64) (8 : Int64) X Y (fun r1 X2 Y3 => ((¬ r1 = 0 → ((((X2 48 12) + p0) ≤ 120 → ∀ w7 : Int32, w7 = (p0 - 1) → I36 p1 w7 X2 Y3) ∧ (¬ ((X2 48 12) + p0) ≤ 120 → Q (-1004) X2 Y3))) ∧ (r1 = 0 → Q (-1002) X2 Y3)))
def PX10_feed (p0 : Int32) (p1 : Int64) (X : XT) (Y : YT) (Q : Int32 → XT → YT → Prop) : Prop := ∀ (I36 : Int64 → Int32 → XT → YT → Prop), (∀ (a2 : Int64) (a4 : Int32) (X : XT) (Y : YT), BX10_feed_36 I36 Q a2 a4 X Y → I36 a2 a4 X Y) → BX10_feed_s I36 Q p0 p1 X Y
set_option maxHeartbeats 4000000 in
set_option maxRecDepth 100000 in
theorem kX10_feed_36 {Γ : Cxt} {Q : Int32 → XT → YT → Prop} (O : Ok Γ RX10 cX10_feed 5 { frames := 1, cells := 0, slots := 0, locals := 25 }) (r : Ret Γ (some .int) (qI Q)) {I36 : Int64 → Int32 → XT → YT → Prop} (e36 : ∀ (a2 : Int64) (a4 : Int32) (X : XT) (Y : YT), I36 a2 a4 X Y → V Γ 36 [(0, .ref 48), (2, .long a2), (4, .int a4)] [] X Y) {a2 : Int64} {a4 : Int32} {X : XT} {Y : YT} (h : BX10_feed_36 I36 Q a2 a4 X Y) : V Γ 36 [(0, .ref 48), (2, .long a2), (4, .int a4)] [] X Y := by
  refine v_iload O dX10_feed_36 2 rfl ?_
  refine v_if_lt (tgt := 78) O dX10_feed_38 (by decide) (fun g1 => ?_) (fun g1 => ?_)
  · refine v_aload_n O dX10_feed_78 rfl 0 rfl ?_
    refine v_get O dX10_feed_79 fo_X10_118 sh_48 rfl rfl ?_
    exact v_iret O r dX10_feed_82 ⟨_, rfl, (h.1 g1)⟩
  · refine v_aload_n O dX10_feed_41 rfl 0 rfl ?_
    refine v_get O dX10_feed_42 fo_X10_34 sh_48 rfl rfl ?_
    refine v_aload_n O dX10_feed_45 rfl 0 rfl ?_
    refine v_get O dX10_feed_46 fo_X10_118 sh_48 rfl rfl ?_
    refine v_lload_n O dX10_feed_49 rfl 1 rfl ?_
    refine v_bipush O dX10_feed_50 kb_8 ?_
    refine v_iload O dX10_feed_52 2 rfl ?_
    refine v_imul O dX10_feed_54 ?_
    refine v_lshr O dX10_feed_55 ?_
    refine v_ldc2 O dX10_feed_56 kl_X10_121 ?_
    refine v_land O dX10_feed_59 ?_
    refine v_l2i O dX10_feed_60 ?_
    refine v_iast O dX10_feed_61 sh_57 (h.2 g1).1 ?_
    refine v_nmX (fun X2 hX3 => ?_)
    refine v_aload_n O dX10_feed_62 rfl 0 rfl ?_
    refine v_dup O dX10_feed_63 rfl ?_
    refine v_get O dX10_feed_64 fo_X10_118 sh_48 rfl rfl ?_
    refine v_iconst O dX10_feed_67 kc_1 ?_
    refine v_iadd O dX10_feed_68 ?_
    refine v_putI O dX10_feed_69 fo_X10_118 fp_10_12 sh_48 rfl rfl rfl ?_
    obtain ⟨w4, hw5⟩ : ∃ y : Int32, y = a4 + (-1) := ⟨_, rfl⟩
    refine v_iinc (v := w4) (j := 2) O dX10_feed_72 rfl (by rw [hw5]; exact congrArg _ kc_m1) (by decide) (lv' := [(4, .int w4), (0, .ref 48), (2, .long a2)]) rfl ?_
    refine v_goto O dX10_feed_75 (tgt := 36) (by decide) ?_
    exact v_loc [1, 2, 0] rfl (e36 a2 w4 (sX X2 48 12 ((X2 48 12) + 1)) Y (((h.2 g1).2 X2 hX3) w4 hw5))
set_option maxHeartbeats 4000000 in
set_option maxRecDepth 100000 in
theorem kX10_feed_s {Γ : Cxt} {Q : Int32 → XT → YT → Prop} (O : Ok Γ RX10 cX10_feed 5 { frames := 1, cells := 0, slots := 0, locals := 25 }) (r : Ret Γ (some .int) (qI Q)) {I36 : Int64 → Int32 → XT → YT → Prop} (e36 : ∀ (a2 : Int64) (a4 : Int32) (X : XT) (Y : YT), I36 a2 a4 X Y → V Γ 36 [(0, .ref 48), (2, .long a2), (4, .int a4)] [] X Y) {p0 : Int32} {p1 : Int64} {X : XT} {Y : YT} (h : BX10_feed_s I36 Q p0 p1 X Y) : V Γ 0 [(0, .ref 48), (1, .int p0), (2, .long p1)] [] X Y := by
  refine v_iload_n O dX10_feed_0 rfl 1 rfl ?_
  refine v_i2l O dX10_feed_1 ?_
  refine v_lconst O dX10_feed_2 (v := 1) (by decide) ?_
  refine v_ldc2 O dX10_feed_3 kl_X10_116 ?_
  refine v_callS (rm' := { frames := 0, cells := 0, slots := 0, locals := 0 }) (As := [.long (p0.toInt64), .long (1 : Int64), .long (8 : Int64)]) (st := []) O dX10_feed_6 ci_X10_in ml_X10_108 ms_X10_in ⟨rfl, rfl, (by decide), (by decide)⟩ rfl (Nat.le_of_ble_eq_true rfl) rfl (mX10_in h) (k_I (fun r1 X2 Y3 h4 => ?_))
  refine v_if_ne (tgt := 16) O dX10_feed_9 (by decide) (fun g5 => ?_) (fun g5 => ?_)
  · refine v_aload_n O dX10_feed_16 rfl 0 rfl ?_
    refine v_get O dX10_feed_17 fo_X10_118 sh_48 rfl rfl ?_
    refine v_iload_n O dX10_feed_20 rfl 1 rfl ?_
    refine v_iadd O dX10_feed_21 ?_
    refine v_bipush O dX10_feed_22 kb_120 ?_
    refine v_icmp_le (tgt := 31) O dX10_feed_24 (by decide) (fun g6 => ?_) (fun g6 => ?_)
    · refine v_iload_n O dX10_feed_31 rfl 1 rfl ?_
      refine v_iconst O dX10_feed_32 kc_1 ?_
      refine v_isub O dX10_feed_33 ?_
      refine v_topi (fun w7 hw8 => ?_)
      refine v_istore (lv' := [(4, .int w7), (0, .ref 48), (1, .int p0), (2, .long p1)]) O dX10_feed_34 (by decide) rfl ?_
      exact v_loc [1, 3, 0] rfl (e36 p1 w7 X2 Y3 (((h4.1 g5).1 g6) w7 hw8))
    · refine v_sipush O dX10_feed_27 ks_m1004 ?_
      exact v_iret O r dX10_feed_30 ⟨_, rfl, ((h4.1 g5).2 g6)⟩
  · refine v_sipush O dX10_feed_12 ks_m1002 ?_
    exact v_iret O r dX10_feed_15 ⟨_, rfl, (h4.2 g5)⟩
set_option maxRecDepth 100000 in
theorem mX10_feed {Γ : Cxt} {p0 : Int32} {p1 : Int64} {X : XT} {Y : YT} {Q : Int32 → XT → YT → Prop} (h : PX10_feed p0 p1 X Y Q) : MT Γ yX10_feed (.code yX10_feed cX10_feed 5 (some .int) :: wl) { frames := 1, cells := 0, slots := 0, locals := 25 } [.ref 48, .int p0, .long p1] X Y (qI Q) :=
  mt_of (by decide) (Nat.le_of_ble_eq_true rfl) (fun Γ _ O r => kX10_feed_s O r (fun _ _ _ _ g => g) (h (fun a2 a4 X Y => V Γ 36 [(0, .ref 48), (2, .long a2), (4, .int a4)] [] X Y) (fun _ _ _ _ g => kX10_feed_36 O r (fun _ _ _ _ g => g) g)))
theorem dX10_nameAt_0 : decode cX10_nameAt 0 = .ok (.iconst 0, 1) := by decide +kernel
theorem dX10_nameAt_1 : decode cX10_nameAt 1 = .ok (.istore_n 3, 1) := by decide +kernel
theorem dX10_nameAt_2 : decode cX10_nameAt 2 = .ok (.iload_n 3, 1) := by decide +kernel
theorem dX10_nameAt_3 : decode cX10_nameAt 3 = .ok (.aload_n 0, 1) := by decide +kernel
theorem dX10_nameAt_4 : decode cX10_nameAt 4 = .ok (.getfield 123, 3) := by decide +kernel
theorem dX10_nameAt_7 : decode cX10_nameAt 7 = .ok (.if_icmp .ge 87, 3) := by decide +kernel
theorem dX10_nameAt_10 : decode cX10_nameAt 10 = .ok (.aload_n 0, 1) := by decide +kernel
theorem dX10_nameAt_11 : decode cX10_nameAt 11 = .ok (.getfield 16, 3) := by decide +kernel
theorem dX10_nameAt_14 : decode cX10_nameAt 14 = .ok (.iload_n 3, 1) := by decide +kernel
theorem dX10_nameAt_15 : decode cX10_nameAt 15 = .ok (.iaload, 1) := by decide +kernel
theorem dX10_nameAt_16 : decode cX10_nameAt 16 = .ok (.iload_n 2, 1) := by decide +kernel
theorem dX10_nameAt_17 : decode cX10_nameAt 17 = .ok (.if_icmp .ne 7, 3) := by decide +kernel
theorem dX10_nameAt_20 : decode cX10_nameAt 20 = .ok (.iconst 1, 1) := by decide +kernel
theorem dX10_nameAt_21 : decode cX10_nameAt 21 = .ok (.goto 4, 3) := by decide +kernel
theorem dX10_nameAt_24 : decode cX10_nameAt 24 = .ok (.iconst 0, 1) := by decide +kernel
theorem dX10_nameAt_25 : decode cX10_nameAt 25 = .ok (.istore 4, 2) := by decide +kernel
theorem dX10_nameAt_27 : decode cX10_nameAt 27 = .ok (.iconst 0, 1) := by decide +kernel
theorem dX10_nameAt_28 : decode cX10_nameAt 28 = .ok (.istore 5, 2) := by decide +kernel
theorem dX10_nameAt_30 : decode cX10_nameAt 30 = .ok (.iload 5, 2) := by decide +kernel
theorem dX10_nameAt_32 : decode cX10_nameAt 32 = .ok (.iload_n 2, 1) := by decide +kernel
theorem dX10_nameAt_33 : decode cX10_nameAt 33 = .ok (.if_icmp .ge 48, 3) := by decide +kernel
theorem dX10_nameAt_36 : decode cX10_nameAt 36 = .ok (.iload 4, 2) := by decide +kernel
theorem dX10_nameAt_38 : decode cX10_nameAt 38 = .ok (.ifCond .eq 43, 3) := by decide +kernel
theorem dX10_nameAt_41 : decode cX10_nameAt 41 = .ok (.aload_n 0, 1) := by decide +kernel
theorem dX10_nameAt_42 : decode cX10_nameAt 42 = .ok (.getfield 13, 3) := by decide +kernel
theorem dX10_nameAt_45 : decode cX10_nameAt 45 = .ok (.bipush 12, 2) := by decide +kernel
theorem dX10_nameAt_47 : decode cX10_nameAt 47 = .ok (.iload_n 3, 1) := by decide +kernel
theorem dX10_nameAt_48 : decode cX10_nameAt 48 = .ok (.imul, 1) := by decide +kernel
theorem dX10_nameAt_49 : decode cX10_nameAt 49 = .ok (.iload 5, 2) := by decide +kernel
theorem dX10_nameAt_51 : decode cX10_nameAt 51 = .ok (.iadd, 1) := by decide +kernel
theorem dX10_nameAt_52 : decode cX10_nameAt 52 = .ok (.iaload, 1) := by decide +kernel
theorem dX10_nameAt_53 : decode cX10_nameAt 53 = .ok (.aload_n 0, 1) := by decide +kernel
theorem dX10_nameAt_54 : decode cX10_nameAt 54 = .ok (.getfield 34, 3) := by decide +kernel
theorem dX10_nameAt_57 : decode cX10_nameAt 57 = .ok (.iload_n 1, 1) := by decide +kernel
theorem dX10_nameAt_58 : decode cX10_nameAt 58 = .ok (.iload 5, 2) := by decide +kernel
theorem dX10_nameAt_60 : decode cX10_nameAt 60 = .ok (.iadd, 1) := by decide +kernel
theorem dX10_nameAt_61 : decode cX10_nameAt 61 = .ok (.iaload, 1) := by decide +kernel
theorem dX10_nameAt_62 : decode cX10_nameAt 62 = .ok (.bipush 97, 2) := by decide +kernel
theorem dX10_nameAt_64 : decode cX10_nameAt 64 = .ok (.isub, 1) := by decide +kernel
theorem dX10_nameAt_65 : decode cX10_nameAt 65 = .ok (.if_icmp .ne 7, 3) := by decide +kernel
theorem dX10_nameAt_68 : decode cX10_nameAt 68 = .ok (.iconst 1, 1) := by decide +kernel
theorem dX10_nameAt_69 : decode cX10_nameAt 69 = .ok (.goto 4, 3) := by decide +kernel
theorem dX10_nameAt_72 : decode cX10_nameAt 72 = .ok (.iconst 0, 1) := by decide +kernel
theorem dX10_nameAt_73 : decode cX10_nameAt 73 = .ok (.istore 4, 2) := by decide +kernel
theorem dX10_nameAt_75 : decode cX10_nameAt 75 = .ok (.iinc 5 1, 3) := by decide +kernel
theorem dX10_nameAt_78 : decode cX10_nameAt 78 = .ok (.goto (-48), 3) := by decide +kernel
theorem dX10_nameAt_81 : decode cX10_nameAt 81 = .ok (.iload 4, 2) := by decide +kernel
theorem dX10_nameAt_83 : decode cX10_nameAt 83 = .ok (.ifCond .eq 5, 3) := by decide +kernel
theorem dX10_nameAt_86 : decode cX10_nameAt 86 = .ok (.iload_n 3, 1) := by decide +kernel
theorem dX10_nameAt_87 : decode cX10_nameAt 87 = .ok (.ireturn, 1) := by decide +kernel
theorem dX10_nameAt_88 : decode cX10_nameAt 88 = .ok (.iinc 3 1, 3) := by decide +kernel
theorem dX10_nameAt_91 : decode cX10_nameAt 91 = .ok (.goto (-89), 3) := by decide +kernel
theorem dX10_nameAt_94 : decode cX10_nameAt 94 = .ok (.iconst (-1), 1) := by decide +kernel
theorem dX10_nameAt_95 : decode cX10_nameAt 95 = .ok (.ireturn, 1) := by decide +kernel
def BX10_nameAt_2 (I2 : Int32 → Int32 → Int32 → XT → YT → Prop) (I30 : Int32 → Int32 → Int32 → Int32 → Int32 → XT → YT → Prop) (Q : Int32 → XT → YT → Prop) (a1 : Int32) (a2 : Int32) (a3 : Int32) (X : XT) (Y : YT) : Prop :=
  (((X 48 1) ≤ a3 → Q (-1) X Y) ∧ (¬ (X 48 1) ≤ a3 → vp_in a3 10 ∧ ((¬ (X 51 a3.toNatClampNeg) = a2 → I30 a1 a2 a3 0 0 X Y) ∧ ((X 51 a3.toNatClampNeg) = a2 → I30 a1 a2 a3 1 0 X Y))))
def BX10_nameAt_30 (I2 : Int32 → Int32 → Int32 → XT → YT → Prop) (I30 : Int32 → Int32 → Int32 → Int32 → Int32 → XT → YT → Prop) (Q : Int32 → XT → YT → Prop) (a1 : Int32) (a2 : Int32) (a3 : Int32) (a4 : Int32) (a5 : Int32) (X : XT) (Y : YT) : Prop :=
  ((a2 ≤ a5 → ((a4 = 0 → ∀ w3 : Int32, w3 = a3 + 1 → I2 a1 a2 w3 X Y) ∧ (¬ a4 = 0 → Q a3 X Y))) ∧ (¬ a2 ≤ a5 → ((a4 = 0 → ((a4 = 0 → ∀ w7 : Int32, w7 = a3 + 1 → I2 a1 a2 w7 X Y) ∧ (¬ a4 = 0 → Q a3 X Y))) ∧ (¬ a4 = 0 → vp_in ((12 * a3) + a5) 120 ∧ vp_in (a1 + a5) 120 ∧ ((¬ (X 50 ((12 * a3) + a5).toNatClampNeg) = ((X 57 (a1 + a5).toNatClampNeg) - 97) → ∀ w10 : Int32, w10 = a5 + 1 → I30 a1 a2 a3 0 w10 X Y) ∧ ((X 50 ((12 * a3) + a5).toNatClampNeg) = ((X 57 (a1 + a5).toNatClampNeg) - 97) → ∀ w12 : Int32, w12 = a5 + 1 → I30 a1 a2 a3 1 w12 X Y))))))
def BX10_nameAt_s (I2 : Int32 → Int32 → Int32 → XT → YT → Prop) (I30 : Int32 → Int32 → Int32 → Int32 → Int32 → XT → YT → Prop) (Q : Int32 → XT → YT → Prop) (p0 : Int32) (p1 : Int32) (X : XT) (Y : YT) : Prop :=
  I2 p0 p1 0 X Y
def PX10_nameAt (p0 : Int32) (p1 : Int32) (X : XT) (Y : YT) (Q : Int32 → XT → YT → Prop) : Prop := ∀ (I2 : Int32 → Int32 → Int32 → XT → YT → Prop) (I30 : Int32 → Int32 → Int32 → Int32 → Int32 → XT → YT → Prop), (∀ (a1 : Int32) (a2 : Int32) (a3 : Int32) (X : XT) (Y : YT), BX10_nameAt_2 I2 I30 Q a1 a2 a3 X Y → I2 a1 a2 a3 X Y) → (∀ (a1 : Int32) (a2 : Int32) (a3 : Int32) (a4 : Int32) (a5 : Int32) (X : XT) (Y : YT), BX10_nameAt_30 I2 I30 Q a1 a2 a3 a4 a5 X Y → I30 a1 a2 a3 a4 a5 X Y) → BX10_nameAt_s I2 I30 Q p0 p1 X Y
set_option maxHeartbeats 4000000 in
set_option maxRecDepth 100000 in
theorem kX10_nameAt_2 {Γ : Cxt} {Q : Int32 → XT → YT → Prop} (O : Ok Γ RX10 cX10_nameAt 6 { frames := 0, cells := 0, slots := 0, locals := 0 }) (r : Ret Γ (some .int) (qI Q)) {I2 : Int32 → Int32 → Int32 → XT → YT → Prop} {I30 : Int32 → Int32 → Int32 → Int32 → Int32 → XT → YT → Prop} (e2 : ∀ (a1 : Int32) (a2 : Int32) (a3 : Int32) (X : XT) (Y : YT), I2 a1 a2 a3 X Y → V Γ 2 [(0, .ref 48), (1, .int a1), (2, .int a2), (3, .int a3)] [] X Y) (e30 : ∀ (a1 : Int32) (a2 : Int32) (a3 : Int32) (a4 : Int32) (a5 : Int32) (X : XT) (Y : YT), I30 a1 a2 a3 a4 a5 X Y → V Γ 30 [(0, .ref 48), (1, .int a1), (2, .int a2), (3, .int a3), (4, .int a4), (5, .int a5)] [] X Y) {a1 : Int32} {a2 : Int32} {a3 : Int32} {X : XT} {Y : YT} (h : BX10_nameAt_2 I2 I30 Q a1 a2 a3 X Y) : V Γ 2 [(0, .ref 48), (1, .int a1), (2, .int a2), (3, .int a3)] [] X Y := by
  refine v_iload_n O dX10_nameAt_2 rfl 3 rfl ?_
  refine v_aload_n O dX10_nameAt_3 rfl 0 rfl ?_
  refine v_get O dX10_nameAt_4 fo_X10_123 sh_48 rfl rfl ?_
  refine v_icmp_ge (tgt := 94) O dX10_nameAt_7 (by decide) (fun g1 => ?_) (fun g1 => ?_)
  · refine v_iconst O dX10_nameAt_94 kc_m1 ?_
    exact v_iret O r dX10_nameAt_95 ⟨_, rfl, (h.1 g1)⟩
  · refine v_aload_n O dX10_nameAt_10 rfl 0 rfl ?_
    refine v_get O dX10_nameAt_11 fo_X10_16 sh_48 rfl rfl ?_
    refine v_iload_n O dX10_nameAt_14 rfl 3 rfl ?_
    refine v_iald O dX10_nameAt_15 sh_51 (h.2 g1).1 ?_
    refine v_iload_n O dX10_nameAt_16 rfl 2 rfl ?_
    refine v_icmp_ne (tgt := 24) O dX10_nameAt_17 (by decide) (fun g2 => ?_) (fun g2 => ?_)
    · refine v_iconst O dX10_nameAt_24 kc_0 ?_
      refine v_istore (lv' := [(4, .int 0), (0, .ref 48), (1, .int a1), (2, .int a2), (3, .int a3)]) O dX10_nameAt_25 (by decide) rfl ?_
      refine v_iconst O dX10_nameAt_27 kc_0 ?_
      refine v_istore (lv' := [(5, .int 0), (4, .int 0), (0, .ref 48), (1, .int a1), (2, .int a2), (3, .int a3)]) O dX10_nameAt_28 (by decide) rfl ?_
      exact v_loc [2, 3, 4, 5, 1, 0] rfl (e30 a1 a2 a3 0 0 X Y ((h.2 g1).2.1 g2))
    · refine v_iconst O dX10_nameAt_20 kc_1 ?_
      refine v_goto O dX10_nameAt_21 (tgt := 25) (by decide) ?_
      refine v_istore (lv' := [(4, .int 1), (0, .ref 48), (1, .int a1), (2, .int a2), (3, .int a3)]) O dX10_nameAt_25 (by decide) rfl ?_
      refine v_iconst O dX10_nameAt_27 kc_0 ?_
      refine v_istore (lv' := [(5, .int 0), (4, .int 1), (0, .ref 48), (1, .int a1), (2, .int a2), (3, .int a3)]) O dX10_nameAt_28 (by decide) rfl ?_
      exact v_loc [2, 3, 4, 5, 1, 0] rfl (e30 a1 a2 a3 1 0 X Y ((h.2 g1).2.2 g2))
set_option maxHeartbeats 4000000 in
set_option maxRecDepth 100000 in
theorem kX10_nameAt_30 {Γ : Cxt} {Q : Int32 → XT → YT → Prop} (O : Ok Γ RX10 cX10_nameAt 6 { frames := 0, cells := 0, slots := 0, locals := 0 }) (r : Ret Γ (some .int) (qI Q)) {I2 : Int32 → Int32 → Int32 → XT → YT → Prop} {I30 : Int32 → Int32 → Int32 → Int32 → Int32 → XT → YT → Prop} (e2 : ∀ (a1 : Int32) (a2 : Int32) (a3 : Int32) (X : XT) (Y : YT), I2 a1 a2 a3 X Y → V Γ 2 [(0, .ref 48), (1, .int a1), (2, .int a2), (3, .int a3)] [] X Y) (e30 : ∀ (a1 : Int32) (a2 : Int32) (a3 : Int32) (a4 : Int32) (a5 : Int32) (X : XT) (Y : YT), I30 a1 a2 a3 a4 a5 X Y → V Γ 30 [(0, .ref 48), (1, .int a1), (2, .int a2), (3, .int a3), (4, .int a4), (5, .int a5)] [] X Y) {a1 : Int32} {a2 : Int32} {a3 : Int32} {a4 : Int32} {a5 : Int32} {X : XT} {Y : YT} (h : BX10_nameAt_30 I2 I30 Q a1 a2 a3 a4 a5 X Y) : V Γ 30 [(0, .ref 48), (1, .int a1), (2, .int a2), (3, .int a3), (4, .int a4), (5, .int a5)] [] X Y := by
  refine v_iload O dX10_nameAt_30 5 rfl ?_
  refine v_iload_n O dX10_nameAt_32 rfl 2 rfl ?_
  refine v_icmp_ge (tgt := 81) O dX10_nameAt_33 (by decide) (fun g1 => ?_) (fun g1 => ?_)
  · refine v_iload O dX10_nameAt_81 4 rfl ?_
    refine v_if_eq (tgt := 88) O dX10_nameAt_83 (by decide) (fun g2 => ?_) (fun g2 => ?_)
    · obtain ⟨w3, hw4⟩ : ∃ y : Int32, y = a3 + 1 := ⟨_, rfl⟩
      refine v_iinc (v := w3) (j := 3) O dX10_nameAt_88 rfl (by rw [hw4]; exact congrArg _ kc_1) (by decide) (lv' := [(3, .int w3), (0, .ref 48), (1, .int a1), (2, .int a2), (4, .int a4), (5, .int a5)]) rfl ?_
      refine v_goto O dX10_nameAt_91 (tgt := 2) (by decide) ?_
      exact v_loc [1, 2, 3, 0] rfl (e2 a1 a2 w3 X Y (((h.1 g1).1 g2) w3 hw4))
    · refine v_iload_n O dX10_nameAt_86 rfl 3 rfl ?_
      exact v_iret O r dX10_nameAt_87 ⟨_, rfl, ((h.1 g1).2 g2)⟩
  · refine v_iload O dX10_nameAt_36 4 rfl ?_
    refine v_if_eq (tgt := 81) O dX10_nameAt_38 (by decide) (fun g5 => ?_) (fun g5 => ?_)
    · refine v_iload O dX10_nameAt_81 4 rfl ?_
      refine v_if_eq (tgt := 88) O dX10_nameAt_83 (by decide) (fun g6 => ?_) (fun g6 => ?_)
      · obtain ⟨w7, hw8⟩ : ∃ y : Int32, y = a3 + 1 := ⟨_, rfl⟩
        refine v_iinc (v := w7) (j := 3) O dX10_nameAt_88 rfl (by rw [hw8]; exact congrArg _ kc_1) (by decide) (lv' := [(3, .int w7), (0, .ref 48), (1, .int a1), (2, .int a2), (4, .int a4), (5, .int a5)]) rfl ?_
        refine v_goto O dX10_nameAt_91 (tgt := 2) (by decide) ?_
        exact v_loc [1, 2, 3, 0] rfl (e2 a1 a2 w7 X Y ((((h.2 g1).1 g5).1 g6) w7 hw8))
      · refine v_iload_n O dX10_nameAt_86 rfl 3 rfl ?_
        exact v_iret O r dX10_nameAt_87 ⟨_, rfl, (((h.2 g1).1 g5).2 g6)⟩
    · refine v_aload_n O dX10_nameAt_41 rfl 0 rfl ?_
      refine v_get O dX10_nameAt_42 fo_X10_13 sh_48 rfl rfl ?_
      refine v_bipush O dX10_nameAt_45 kb_12 ?_
      refine v_iload_n O dX10_nameAt_47 rfl 3 rfl ?_
      refine v_imul O dX10_nameAt_48 ?_
      refine v_iload O dX10_nameAt_49 5 rfl ?_
      refine v_iadd O dX10_nameAt_51 ?_
      refine v_iald O dX10_nameAt_52 sh_50 ((h.2 g1).2 g5).1 ?_
      refine v_aload_n O dX10_nameAt_53 rfl 0 rfl ?_
      refine v_get O dX10_nameAt_54 fo_X10_34 sh_48 rfl rfl ?_
      refine v_iload_n O dX10_nameAt_57 rfl 1 rfl ?_
      refine v_iload O dX10_nameAt_58 5 rfl ?_
      refine v_iadd O dX10_nameAt_60 ?_
      refine v_iald O dX10_nameAt_61 sh_57 ((h.2 g1).2 g5).2.1 ?_
      refine v_bipush O dX10_nameAt_62 kb_97 ?_
      refine v_isub O dX10_nameAt_64 ?_
      refine v_icmp_ne (tgt := 72) O dX10_nameAt_65 (by decide) (fun g9 => ?_) (fun g9 => ?_)
      · refine v_iconst O dX10_nameAt_72 kc_0 ?_
        refine v_istore (lv' := [(4, .int 0), (0, .ref 48), (1, .int a1), (2, .int a2), (3, .int a3), (5, .int a5)]) O dX10_nameAt_73 (by decide) rfl ?_
        obtain ⟨w10, hw11⟩ : ∃ y : Int32, y = a5 + 1 := ⟨_, rfl⟩
        refine v_iinc (v := w10) (j := 5) O dX10_nameAt_75 rfl (by rw [hw11]; exact congrArg _ kc_1) (by decide) (lv' := [(5, .int w10), (4, .int 0), (0, .ref 48), (1, .int a1), (2, .int a2), (3, .int a3)]) rfl ?_
        refine v_goto O dX10_nameAt_78 (tgt := 30) (by decide) ?_
        exact v_loc [2, 3, 4, 5, 1, 0] rfl (e30 a1 a2 a3 0 w10 X Y ((((h.2 g1).2 g5).2.2.1 g9) w10 hw11))
      · refine v_iconst O dX10_nameAt_68 kc_1 ?_
        refine v_goto O dX10_nameAt_69 (tgt := 73) (by decide) ?_
        refine v_istore (lv' := [(4, .int 1), (0, .ref 48), (1, .int a1), (2, .int a2), (3, .int a3), (5, .int a5)]) O dX10_nameAt_73 (by decide) rfl ?_
        obtain ⟨w12, hw13⟩ : ∃ y : Int32, y = a5 + 1 := ⟨_, rfl⟩
        refine v_iinc (v := w12) (j := 5) O dX10_nameAt_75 rfl (by rw [hw13]; exact congrArg _ kc_1) (by decide) (lv' := [(5, .int w12), (4, .int 1), (0, .ref 48), (1, .int a1), (2, .int a2), (3, .int a3)]) rfl ?_
        refine v_goto O dX10_nameAt_78 (tgt := 30) (by decide) ?_
        exact v_loc [2, 3, 4, 5, 1, 0] rfl (e30 a1 a2 a3 1 w12 X Y ((((h.2 g1).2 g5).2.2.2 g9) w12 hw13))
set_option maxHeartbeats 4000000 in
set_option maxRecDepth 100000 in
theorem kX10_nameAt_s {Γ : Cxt} {Q : Int32 → XT → YT → Prop} (O : Ok Γ RX10 cX10_nameAt 6 { frames := 0, cells := 0, slots := 0, locals := 0 }) (r : Ret Γ (some .int) (qI Q)) {I2 : Int32 → Int32 → Int32 → XT → YT → Prop} {I30 : Int32 → Int32 → Int32 → Int32 → Int32 → XT → YT → Prop} (e2 : ∀ (a1 : Int32) (a2 : Int32) (a3 : Int32) (X : XT) (Y : YT), I2 a1 a2 a3 X Y → V Γ 2 [(0, .ref 48), (1, .int a1), (2, .int a2), (3, .int a3)] [] X Y) (e30 : ∀ (a1 : Int32) (a2 : Int32) (a3 : Int32) (a4 : Int32) (a5 : Int32) (X : XT) (Y : YT), I30 a1 a2 a3 a4 a5 X Y → V Γ 30 [(0, .ref 48), (1, .int a1), (2, .int a2), (3, .int a3), (4, .int a4), (5, .int a5)] [] X Y) {p0 : Int32} {p1 : Int32} {X : XT} {Y : YT} (h : BX10_nameAt_s I2 I30 Q p0 p1 X Y) : V Γ 0 [(0, .ref 48), (1, .int p0), (2, .int p1)] [] X Y := by
  refine v_iconst O dX10_nameAt_0 kc_0 ?_
  refine v_istore_n (lv' := [(3, .int 0), (0, .ref 48), (1, .int p0), (2, .int p1)]) O dX10_nameAt_1 rfl (by decide) rfl ?_
  exact v_loc [1, 2, 3, 0] rfl (e2 p0 p1 0 X Y h)
set_option maxRecDepth 100000 in
theorem mX10_nameAt {Γ : Cxt} {p0 : Int32} {p1 : Int32} {X : XT} {Y : YT} {Q : Int32 → XT → YT → Prop} (h : PX10_nameAt p0 p1 X Y Q) : MT Γ yX10_nameAt (.code yX10_nameAt cX10_nameAt 6 (some .int) :: wl) { frames := 0, cells := 0, slots := 0, locals := 0 } [.ref 48, .int p0, .int p1] X Y (qI Q) :=
  mt_of (by decide) (Nat.le_of_ble_eq_true rfl) (fun Γ _ O r => kX10_nameAt_s O r (fun _ _ _ _ _ g => g) (fun _ _ _ _ _ _ _ g => g) (h (fun a1 a2 a3 X Y => V Γ 2 [(0, .ref 48), (1, .int a1), (2, .int a2), (3, .int a3)] [] X Y) (fun a1 a2 a3 a4 a5 X Y => V Γ 30 [(0, .ref 48), (1, .int a1), (2, .int a2), (3, .int a3), (4, .int a4), (5, .int a5)] [] X Y) (fun _ _ _ _ _ g => kX10_nameAt_2 O r (fun _ _ _ _ _ g => g) (fun _ _ _ _ _ _ _ g => g) g) (fun _ _ _ _ _ _ _ g => kX10_nameAt_30 O r (fun _ _ _ _ _ g => g) (fun _ _ _ _ _ _ _ g => g) g)))
