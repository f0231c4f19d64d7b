theorem dX10_fault_0 : decode cX10_fault 0 = .ok (.aload_n 0, 1) := by decide +kernel
theorem dX10_fault_1 : decode cX10_fault 1 = .ok (.getfield 67, 3) := by decide +kernel
theorem dX10_fault_4 : decode cX10_fault 4 = .ok (.ireturn, 1) := by decide +kernel
def BX10_fault_s (Q : Int32 → XT → YT → Prop) (X : XT) (Y : YT) : Prop :=
  Q (X 48 31) X Y
def PX10_fault (X : XT) (Y : YT) (Q : Int32 → XT → YT → Prop) : Prop :=  BX10_fault_s Q X Y
set_option maxHeartbeats 4000000 in
set_option maxRecDepth 100000 in
theorem kX10_fault_s {Γ : Cxt} {Q : Int32 → XT → YT → Prop} (O : Ok Γ RX10 cX10_fault 1 { frames := 0, cells := 0, slots := 0, locals := 0 }) (r : Ret Γ (some .int) (qI Q)) {X : XT} {Y : YT} (h : BX10_fault_s Q X Y) : V Γ 0 [(0, .ref 48)] [] X Y := by
  refine v_aload_n O dX10_fault_0 rfl 0 rfl ?_
  refine v_get O dX10_fault_1 fo_X10_67 sh_48 rfl rfl ?_
  exact v_iret O r dX10_fault_4 ⟨_, rfl, h⟩
set_option maxRecDepth 100000 in
theorem mX10_fault {Γ : Cxt} {X : XT} {Y : YT} {Q : Int32 → XT → YT → Prop} (h : PX10_fault X Y Q) : MT Γ yX10_fault (.code yX10_fault cX10_fault 1 (some .int) :: wl) { frames := 0, cells := 0, slots := 0, locals := 0 } [.ref 48] X Y (qI Q) :=
  mt_of (by decide) (Nat.le_of_ble_eq_true rfl) (fun Γ _ O r => kX10_fault_s O r  (h ))
theorem dX10_wideAt_0 : decode cX10_wideAt 0 = .ok (.aload_n 0, 1) := by decide +kernel
theorem dX10_wideAt_1 : decode cX10_wideAt 1 = .ok (.getfield 49, 3) := by decide +kernel
theorem dX10_wideAt_4 : decode cX10_wideAt 4 = .ok (.iload_n 1, 1) := by decide +kernel
theorem dX10_wideAt_5 : decode cX10_wideAt 5 = .ok (.iaload, 1) := by decide +kernel
theorem dX10_wideAt_6 : decode cX10_wideAt 6 = .ok (.ifCond .ge 12, 3) := by decide +kernel
theorem dX10_wideAt_9 : decode cX10_wideAt 9 = .ok (.aload_n 0, 1) := by decide +kernel
theorem dX10_wideAt_10 : decode cX10_wideAt 10 = .ok (.getfield 55, 3) := by decide +kernel
theorem dX10_wideAt_13 : decode cX10_wideAt 13 = .ok (.iload_n 1, 1) := by decide +kernel
theorem dX10_wideAt_14 : decode cX10_wideAt 14 = .ok (.iaload, 1) := by decide +kernel
theorem dX10_wideAt_15 : decode cX10_wideAt 15 = .ok (.goto 24, 3) := by decide +kernel
theorem dX10_wideAt_18 : decode cX10_wideAt 18 = .ok (.aload_n 0, 1) := by decide +kernel
theorem dX10_wideAt_19 : decode cX10_wideAt 19 = .ok (.aload_n 0, 1) := by decide +kernel
theorem dX10_wideAt_20 : decode cX10_wideAt 20 = .ok (.getfield 49, 3) := by decide +kernel
theorem dX10_wideAt_23 : decode cX10_wideAt 23 = .ok (.iload_n 1, 1) := by decide +kernel
theorem dX10_wideAt_24 : decode cX10_wideAt 24 = .ok (.iaload, 1) := by decide +kernel
theorem dX10_wideAt_25 : decode cX10_wideAt 25 = .ok (.aload_n 0, 1) := by decide +kernel
theorem dX10_wideAt_26 : decode cX10_wideAt 26 = .ok (.getfield 40, 3) := by decide +kernel
theorem dX10_wideAt_29 : decode cX10_wideAt 29 = .ok (.aload_n 0, 1) := by decide +kernel
theorem dX10_wideAt_30 : decode cX10_wideAt 30 = .ok (.getfield 43, 3) := by decide +kernel
theorem dX10_wideAt_33 : decode cX10_wideAt 33 = .ok (.iload_n 1, 1) := by decide +kernel
theorem dX10_wideAt_34 : decode cX10_wideAt 34 = .ok (.iaload, 1) := by decide +kernel
theorem dX10_wideAt_35 : decode cX10_wideAt 35 = .ok (.iaload, 1) := by decide +kernel
theorem dX10_wideAt_36 : decode cX10_wideAt 36 = .ok (.invokevirtual 149, 3) := by decide +kernel
theorem dX10_wideAt_39 : decode cX10_wideAt 39 = .ok (.ireturn, 1) := by decide +kernel
def BX10_wideAt_s (Q : Int32 → XT → YT → Prop) (p0 : Int32) (X : XT) (Y : YT) : Prop :=
  vp_in p0 32 ∧ ((0 ≤ (X 62 p0.toNatClampNeg) → vp_in p0 32 ∧ vp_in p0 32 ∧ vp_in (X 60 p0.toNatClampNeg) 8 ∧ PX10_widthOf (X 62 p0.toNatClampNeg) (X 59 (X 60 p0.toNatClampNeg).toNatClampNeg) X Y (fun r2 X3 Y4 => Q r2 X3 Y4)) ∧ (¬ 0 ≤ (X 62 p0.toNatClampNeg) → vp_in p0 32 ∧ Q (X 64 p0.toNatClampNeg) X Y))
def PX10_wideAt (p0 : Int32) (X : XT) (Y : YT) (Q : Int32 → XT → YT → Prop) : Prop :=  BX10_wideAt_s Q p0 X Y
set_option maxHeartbeats 4000000 in
set_option maxRecDepth 100000 in
theorem kX10_wideAt_s {Γ : Cxt} {Q : Int32 → XT → YT → Prop} (O : Ok Γ RX10 cX10_wideAt 2 { frames := 1, cells := 0, slots := 0, locals := 24 }) (r : Ret Γ (some .int) (qI Q)) {p0 : Int32} {X : XT} {Y : YT} (h : BX10_wideAt_s Q p0 X Y) : V Γ 0 [(0, .ref 48), (1, .int p0)] [] X Y := by
  refine v_aload_n O dX10_wideAt_0 rfl 0 rfl ?_
  refine v_get O dX10_wideAt_1 fo_X10_49 sh_48 rfl rfl ?_
  refine v_iload_n O dX10_wideAt_4 rfl 1 rfl ?_
  refine v_iald O dX10_wideAt_5 sh_62 h.1 ?_
  refine v_if_ge (tgt := 18) O dX10_wideAt_6 (by decide) (fun g1 => ?_) (fun g1 => ?_)
  · refine v_aload_n O dX10_wideAt_18 rfl 0 rfl ?_
    refine v_aload_n O dX10_wideAt_19 rfl 0 rfl ?_
    refine v_get O dX10_wideAt_20 fo_X10_49 sh_48 rfl rfl ?_
    refine v_iload_n O dX10_wideAt_23 rfl 1 rfl ?_
    refine v_iald O dX10_wideAt_24 sh_62 (h.2.1 g1).1 ?_
    refine v_aload_n O dX10_wideAt_25 rfl 0 rfl ?_
    refine v_get O dX10_wideAt_26 fo_X10_40 sh_48 rfl rfl ?_
    refine v_aload_n O dX10_wideAt_29 rfl 0 rfl ?_
    refine v_get O dX10_wideAt_30 fo_X10_43 sh_48 rfl rfl ?_
    refine v_iload_n O dX10_wideAt_33 rfl 1 rfl ?_
    refine v_iald O dX10_wideAt_34 sh_60 (h.2.1 g1).2.1 ?_
    refine v_iald O dX10_wideAt_35 sh_59 (h.2.1 g1).2.2.1 ?_
    refine v_callV (rm' := { frames := 0, cells := 0, slots := 0, locals := 0 }) (As := [.int (X 62 p0.toNatClampNeg), .int (X 59 (X 60 p0.toNatClampNeg).toNatClampNeg)]) (st := []) O dX10_wideAt_36 ci_X10_widthOf ml_X10_149 mi_X10_widthOf sh_48 rfl ⟨rfl, rfl, (by decide), (by decide)⟩ rfl (Nat.le_of_ble_eq_true rfl) rfl (mX10_widthOf (h.2.1 g1).2.2.2) (k_I (fun r2 X3 Y4 h5 => ?_))
    exact v_iret O r dX10_wideAt_39 ⟨_, rfl, h5⟩
  · refine v_aload_n O dX10_wideAt_9 rfl 0 rfl ?_
    refine v_get O dX10_wideAt_10 fo_X10_55 sh_48 rfl rfl ?_
    refine v_iload_n O dX10_wideAt_13 rfl 1 rfl ?_
    refine v_iald O dX10_wideAt_14 sh_64 (h.2.2 g1).1 ?_
    refine v_goto O dX10_wideAt_15 (tgt := 39) (by decide) ?_
    exact v_iret O r dX10_wideAt_39 ⟨_, rfl, (h.2.2 g1).2⟩
set_option maxRecDepth 100000 in
theorem mX10_wideAt {Γ : Cxt} {p0 : Int32} {X : XT} {Y : YT} {Q : Int32 → XT → YT → Prop} (h : PX10_wideAt p0 X Y Q) : MT Γ yX10_wideAt (.code yX10_wideAt cX10_wideAt 2 (some .int) :: wl) { frames := 1, cells := 0, slots := 0, locals := 24 } [.ref 48, .int p0] X Y (qI Q) :=
  mt_of (by decide) (Nat.le_of_ble_eq_true rfl) (fun Γ _ O r => kX10_wideAt_s O r  (h ))
theorem dX10_place_0 : decode cX10_place 0 = .ok (.iload_n 1, 1) := by decide +kernel
theorem dX10_place_1 : decode cX10_place 1 = .ok (.i2l, 1) := by decide +kernel
theorem dX10_place_2 : decode cX10_place 2 = .ok (.lconst 0, 1) := by decide +kernel
theorem dX10_place_3 : decode cX10_place 3 = .ok (.aload_n 0, 1) := by decide +kernel
theorem dX10_place_4 : decode cX10_place 4 = .ok (.getfield 159, 3) := by decide +kernel
theorem dX10_place_7 : decode cX10_place 7 = .ok (.iconst 1, 1) := by decide +kernel
theorem dX10_place_8 : decode cX10_place 8 = .ok (.isub, 1) := by decide +kernel
theorem dX10_place_9 : decode cX10_place 9 = .ok (.i2l, 1) := by decide +kernel
theorem dX10_place_10 : decode cX10_place 10 = .ok (.invokestatic 108, 3) := by decide +kernel
theorem dX10_place_13 : decode cX10_place 13 = .ok (.ifCond .ne 7, 3) := by decide +kernel
theorem dX10_place_16 : decode cX10_place 16 = .ok (.sipush (-1001), 3) := by decide +kernel
theorem dX10_place_19 : decode cX10_place 19 = .ok (.ireturn, 1) := by decide +kernel
theorem dX10_place_20 : decode cX10_place 20 = .ok (.iload_n 2, 1) := by decide +kernel
theorem dX10_place_21 : decode cX10_place 21 = .ok (.tableswitch 69 0 4 #[35, 42, 49, 56, 63], 35) := by decide +kernel
theorem dX10_place_56 : decode cX10_place 56 = .ok (.aload_n 0, 1) := by decide +kernel
theorem dX10_place_57 : decode cX10_place 57 = .ok (.getfield 43, 3) := by decide +kernel
theorem dX10_place_60 : decode cX10_place 60 = .ok (.iload_n 1, 1) := by decide +kernel
theorem dX10_place_61 : decode cX10_place 61 = .ok (.iaload, 1) := by decide +kernel
theorem dX10_place_62 : decode cX10_place 62 = .ok (.ireturn, 1) := by decide +kernel
theorem dX10_place_63 : decode cX10_place 63 = .ok (.aload_n 0, 1) := by decide +kernel
theorem dX10_place_64 : decode cX10_place 64 = .ok (.getfield 46, 3) := by decide +kernel
theorem dX10_place_67 : decode cX10_place 67 = .ok (.iload_n 1, 1) := by decide +kernel
theorem dX10_place_68 : decode cX10_place 68 = .ok (.iaload, 1) := by decide +kernel
theorem dX10_place_69 : decode cX10_place 69 = .ok (.ireturn, 1) := by decide +kernel
theorem dX10_place_70 : decode cX10_place 70 = .ok (.aload_n 0, 1) := by decide +kernel
theorem dX10_place_71 : decode cX10_place 71 = .ok (.getfield 49, 3) := by decide +kernel
theorem dX10_place_74 : decode cX10_place 74 = .ok (.iload_n 1, 1) := by decide +kernel
theorem dX10_place_75 : decode cX10_place 75 = .ok (.iaload, 1) := by decide +kernel
theorem dX10_place_76 : decode cX10_place 76 = .ok (.ireturn, 1) := by decide +kernel
theorem dX10_place_77 : decode cX10_place 77 = .ok (.aload_n 0, 1) := by decide +kernel
theorem dX10_place_78 : decode cX10_place 78 = .ok (.getfield 52, 3) := by decide +kernel
theorem dX10_place_81 : decode cX10_place 81 = .ok (.iload_n 1, 1) := by decide +kernel
theorem dX10_place_82 : decode cX10_place 82 = .ok (.iaload, 1) := by decide +kernel
theorem dX10_place_83 : decode cX10_place 83 = .ok (.ireturn, 1) := by decide +kernel
theorem dX10_place_84 : decode cX10_place 84 = .ok (.aload_n 0, 1) := by decide +kernel
theorem dX10_place_85 : decode cX10_place 85 = .ok (.iload_n 1, 1) := by decide +kernel
theorem dX10_place_86 : decode cX10_place 86 = .ok (.invokevirtual 228, 3) := by decide +kernel
theorem dX10_place_89 : decode cX10_place 89 = .ok (.ireturn, 1) := by decide +kernel
theorem dX10_place_90 : decode cX10_place 90 = .ok (.sipush (-1002), 3) := by decide +kernel
theorem dX10_place_93 : decode cX10_place 93 = .ok (.ireturn, 1) := by decide +kernel
def BX10_place_s (Q : Int32 → XT → YT → Prop) (p0 : Int32) (p1 : Int32) (X : XT) (Y : YT) : Prop :=
  PX10_in (p0.toInt64) (0 : Int64) (((X 48 16) - 1).toInt64) X Y (fun r1 X2 Y3 => ((¬ r1 = 0 → ((p1.toInt < 0 ∨ 4 < p1.toInt → Q (-1002) X2 Y3) ∧ (p1 = 0 → vp_in p0 32 ∧ Q (X2 60 p0.toNatClampNeg) X2 Y3) ∧ (p1 = 1 → vp_in p0 32 ∧ Q (X2 61 p0.toNatClampNeg) X2 Y3) ∧ (p1 = 2 → vp_in p0 32 ∧ Q (X2 62 p0.toNatClampNeg) X2 Y3) ∧ (p1 = 3 → vp_in p0 32 ∧ Q (X2 63 p0.toNatClampNeg) X2 Y3) ∧ (p1 = 4 → PX10_wideAt p0 X2 Y3 (fun r7 X8 Y9 => Q r7 X8 Y9)))) ∧ (r1 = 0 → Q (-1001) X2 Y3)))
def PX10_place (p0 : Int32) (p1 : Int32) (X : XT) (Y : YT) (Q : Int32 → XT → YT → Prop) : Prop :=  BX10_place_s Q p0 p1 X Y
set_option maxHeartbeats 4000000 in
set_option maxRecDepth 100000 in
theorem kX10_place_s {Γ : Cxt} {Q : Int32 → XT → YT → Prop} (O : Ok Γ RX10 cX10_place 3 { frames := 2, cells := 0, slots := 0, locals := 45 }) (r : Ret Γ (some .int) (qI Q)) {p0 : Int32} {p1 : Int32} {X : XT} {Y : YT} (h : BX10_place_s Q p0 p1 X Y) : V Γ 0 [(0, .ref 48), (1, .int p0), (2, .int p1)] [] X Y := by
  refine v_iload_n O dX10_place_0 rfl 1 rfl ?_
  refine v_i2l O dX10_place_1 ?_
  refine v_lconst O dX10_place_2 (v := 0) (by decide) ?_
  refine v_aload_n O dX10_place_3 rfl 0 rfl ?_
  refine v_get O dX10_place_4 fo_X10_159 sh_48 rfl rfl ?_
  refine v_iconst O dX10_place_7 kc_1 ?_
  refine v_isub O dX10_place_8 ?_
  refine v_i2l O dX10_place_9 ?_
  refine v_callS (rm' := { frames := 0, cells := 0, slots := 0, locals := 0 }) (As := [.long (p0.toInt64), .long (0 : Int64), .long (((X 48 16) - 1).toInt64)]) (st := []) O dX10_place_10 ci_X10_in ml_X10_108 ms_X10_in ⟨rfl, rfl, (by decide), (by decide)⟩ rfl (Nat.le_of_ble_eq_true rfl) rfl (mX10_in h) (k_I (fun r1 X2 Y3 h4 => ?_))
  refine v_if_ne (tgt := 20) O dX10_place_13 (by decide) (fun g5 => ?_) (fun g5 => ?_)
  · refine v_iload_n O dX10_place_20 rfl 2 rfl ?_
    refine v_tsw (tg := [56, 63, 70, 77, 84]) (dt := 90) O dX10_place_21 (by decide) (by decide) (by decide) (by decide) (fun g6 => ?_) (fun j t hj g6 => ?_)
    · refine v_sipush O dX10_place_90 ks_m1002 ?_
      exact v_iret O r dX10_place_93 ⟨_, rfl, ((h4.1 g5).1 g6)⟩
    · match j, hj with
      | 0, hj =>
        cases hj
        refine v_aload_n O dX10_place_56 rfl 0 rfl ?_
        refine v_get O dX10_place_57 fo_X10_43 sh_48 rfl rfl ?_
        refine v_iload_n O dX10_place_60 rfl 1 rfl ?_
        refine v_iald O dX10_place_61 sh_60 ((h4.1 g5).2.1 g6).1 ?_
        exact v_iret O r dX10_place_62 ⟨_, rfl, ((h4.1 g5).2.1 g6).2⟩
      | 1, hj =>
        cases hj
        refine v_aload_n O dX10_place_63 rfl 0 rfl ?_
        refine v_get O dX10_place_64 fo_X10_46 sh_48 rfl rfl ?_
        refine v_iload_n O dX10_place_67 rfl 1 rfl ?_
        refine v_iald O dX10_place_68 sh_61 ((h4.1 g5).2.2.1 g6).1 ?_
        exact v_iret O r dX10_place_69 ⟨_, rfl, ((h4.1 g5).2.2.1 g6).2⟩
      | 2, hj =>
        cases hj
        refine v_aload_n O dX10_place_70 rfl 0 rfl ?_
        refine v_get O dX10_place_71 fo_X10_49 sh_48 rfl rfl ?_
        refine v_iload_n O dX10_place_74 rfl 1 rfl ?_
        refine v_iald O dX10_place_75 sh_62 ((h4.1 g5).2.2.2.1 g6).1 ?_
        exact v_iret O r dX10_place_76 ⟨_, rfl, ((h4.1 g5).2.2.2.1 g6).2⟩
      | 3, hj =>
        cases hj
        refine v_aload_n O dX10_place_77 rfl 0 rfl ?_
        refine v_get O dX10_place_78 fo_X10_52 sh_48 rfl rfl ?_
        refine v_iload_n O dX10_place_81 rfl 1 rfl ?_
        refine v_iald O dX10_place_82 sh_63 ((h4.1 g5).2.2.2.2.1 g6).1 ?_
        exact v_iret O r dX10_place_83 ⟨_, rfl, ((h4.1 g5).2.2.2.2.1 g6).2⟩
      | 4, hj =>
        cases hj
        refine v_aload_n O dX10_place_84 rfl 0 rfl ?_
        refine v_iload_n O dX10_place_85 rfl 1 rfl ?_
        refine v_callV (rm' := { frames := 1, cells := 0, slots := 0, locals := 24 }) (As := [.int p0]) (st := []) O dX10_place_86 ci_X10_wideAt ml_X10_228 mi_X10_wideAt sh_48 rfl ⟨rfl, rfl, (by decide), (by decide)⟩ rfl (Nat.le_of_ble_eq_true rfl) rfl (mX10_wideAt ((h4.1 g5).2.2.2.2.2 g6)) (k_I (fun r7 X8 Y9 h10 => ?_))
        exact v_iret O r dX10_place_89 ⟨_, rfl, h10⟩
      | j + 5, hj => simp at hj
  · refine v_sipush O dX10_place_16 ks_m1001 ?_
    exact v_iret O r dX10_place_19 ⟨_, rfl, (h4.2 g5)⟩
set_option maxRecDepth 100000 in
theorem mX10_place {Γ : Cxt} {p0 : Int32} {p1 : Int32} {X : XT} {Y : YT} {Q : Int32 → XT → YT → Prop} (h : PX10_place p0 p1 X Y Q) : MT Γ yX10_place (.code yX10_place cX10_place 3 (some .int) :: wl) { frames := 2, cells := 0, slots := 0, locals := 45 } [.ref 48, .int p0, .int p1] X Y (qI Q) :=
  mt_of (by decide) (Nat.le_of_ble_eq_true rfl) (fun Γ _ O r => kX10_place_s O r  (h ))
theorem dX10_noBar_0 : decode cX10_noBar 0 = .ok (.iload_n 1, 1) := by decide +kernel
theorem dX10_noBar_1 : decode cX10_noBar 1 = .ok (.i2l, 1) := by decide +kernel
theorem dX10_noBar_2 : decode cX10_noBar 2 = .ok (.lconst 0, 1) := by decide +kernel
theorem dX10_noBar_3 : decode cX10_noBar 3 = .ok (.aload_n 0, 1) := by decide +kernel
theorem dX10_noBar_4 : decode cX10_noBar 4 = .ok (.getfield 162, 3) := by decide +kernel
theorem dX10_noBar_7 : decode cX10_noBar 7 = .ok (.iconst 1, 1) := by decide +kernel
theorem dX10_noBar_8 : decode cX10_noBar 8 = .ok (.isub, 1) := by decide +kernel
theorem dX10_noBar_9 : decode cX10_noBar 9 = .ok (.i2l, 1) := by decide +kernel
theorem dX10_noBar_10 : decode cX10_noBar 10 = .ok (.invokestatic 108, 3) := by decide +kernel
theorem dX10_noBar_13 : decode cX10_noBar 13 = .ok (.ifCond .ne 7, 3) := by decide +kernel
theorem dX10_noBar_16 : decode cX10_noBar 16 = .ok (.iconst 1, 1) := by decide +kernel
theorem dX10_noBar_17 : decode cX10_noBar 17 = .ok (.goto 4, 3) := by decide +kernel
theorem dX10_noBar_20 : decode cX10_noBar 20 = .ok (.iconst 0, 1) := by decide +kernel
theorem dX10_noBar_21 : decode cX10_noBar 21 = .ok (.ireturn, 1) := by decide +kernel
def BX10_noBar_s (Q : Int32 → XT → YT → Prop) (p0 : Int32) (X : XT) (Y : YT) : Prop :=
  PX10_in (p0.toInt64) (0 : Int64) (((X 48 22) - 1).toInt64) X Y (fun r1 X2 Y3 => ((¬ r1 = 0 → Q 0 X2 Y3) ∧ (r1 = 0 → Q 1 X2 Y3)))
def PX10_noBar (p0 : Int32) (X : XT) (Y : YT) (Q : Int32 → XT → YT → Prop) : Prop :=  BX10_noBar_s Q p0 X Y
set_option maxHeartbeats 4000000 in
set_option maxRecDepth 100000 in
theorem kX10_noBar_s {Γ : Cxt} {Q : Int32 → XT → YT → Prop} (O : Ok Γ RX10 cX10_noBar 2 { frames := 1, cells := 0, slots := 0, locals := 25 }) (r : Ret Γ (some .boolean) (qI Q)) {p0 : Int32} {X : XT} {Y : YT} (h : BX10_noBar_s Q p0 X Y) : V Γ 0 [(0, .ref 48), (1, .int p0)] [] X Y := by
  refine v_iload_n O dX10_noBar_0 rfl 1 rfl ?_
  refine v_i2l O dX10_noBar_1 ?_
  refine v_lconst O dX10_noBar_2 (v := 0) (by decide) ?_
  refine v_aload_n O dX10_noBar_3 rfl 0 rfl ?_
  refine v_get O dX10_noBar_4 fo_X10_162 sh_48 rfl rfl ?_
  refine v_iconst O dX10_noBar_7 kc_1 ?_
  refine v_isub O dX10_noBar_8 ?_
  refine v_i2l O dX10_noBar_9 ?_
  refine v_callS (rm' := { frames := 0, cells := 0, slots := 0, locals := 0 }) (As := [.long (p0.toInt64), .long (0 : Int64), .long (((X 48 22) - 1).toInt64)]) (st := []) O dX10_noBar_10 ci_X10_in ml_X10_108 ms_X10_in ⟨rfl, rfl, (by decide), (by decide)⟩ rfl (Nat.le_of_ble_eq_true rfl) rfl (mX10_in h) (k_I (fun r1 X2 Y3 h4 => ?_))
  refine v_if_ne (tgt := 20) O dX10_noBar_13 (by decide) (fun g5 => ?_) (fun g5 => ?_)
  · refine v_iconst O dX10_noBar_20 kc_0 ?_
    exact v_zret O r dX10_noBar_21 (by decide) ⟨_, rfl, (h4.1 g5)⟩
  · refine v_iconst O dX10_noBar_16 kc_1 ?_
    refine v_goto O dX10_noBar_17 (tgt := 21) (by decide) ?_
    exact v_zret O r dX10_noBar_21 (by decide) ⟨_, rfl, (h4.2 g5)⟩
set_option maxRecDepth 100000 in
theorem mX10_noBar {Γ : Cxt} {p0 : Int32} {X : XT} {Y : YT} {Q : Int32 → XT → YT → Prop} (h : PX10_noBar p0 X Y Q) : MT Γ yX10_noBar (.code yX10_noBar cX10_noBar 2 (some .boolean) :: wl) { frames := 1, cells := 0, slots := 0, locals := 25 } [.ref 48, .int p0] X Y (qI Q) :=
  mt_of (by decide) (Nat.le_of_ble_eq_true rfl) (fun Γ _ O r => kX10_noBar_s O r  (h ))
theorem dX10_twins_0 : decode cX10_twins 0 = .ok (.aload_n 0, 1) := by decide +kernel
theorem dX10_twins_1 : decode cX10_twins 1 = .ok (.iload_n 1, 1) := by decide +kernel
theorem dX10_twins_2 : decode cX10_twins 2 = .ok (.invokevirtual 231, 3) := by decide +kernel
theorem dX10_twins_5 : decode cX10_twins 5 = .ok (.ifCond .ne 16, 3) := by decide +kernel
theorem dX10_twins_8 : decode cX10_twins 8 = .ok (.aload_n 0, 1) := by decide +kernel
theorem dX10_twins_9 : decode cX10_twins 9 = .ok (.iload_n 2, 1) := by decide +kernel
theorem dX10_twins_10 : decode cX10_twins 10 = .ok (.invokevirtual 231, 3) := by decide +kernel
theorem dX10_twins_13 : decode cX10_twins 13 = .ok (.ifCond .ne 8, 3) := by decide +kernel
theorem dX10_twins_16 : decode cX10_twins 16 = .ok (.iload_n 1, 1) := by decide +kernel
theorem dX10_twins_17 : decode cX10_twins 17 = .ok (.iload_n 2, 1) := by decide +kernel
theorem dX10_twins_18 : decode cX10_twins 18 = .ok (.if_icmp .ne 7, 3) := by decide +kernel
theorem dX10_twins_21 : decode cX10_twins 21 = .ok (.sipush (-1001), 3) := by decide +kernel
theorem dX10_twins_24 : decode cX10_twins 24 = .ok (.ireturn, 1) := by decide +kernel
theorem dX10_twins_25 : decode cX10_twins 25 = .ok (.iconst 0, 1) := by decide +kernel
theorem dX10_twins_26 : decode cX10_twins 26 = .ok (.istore_n 3, 1) := by decide +kernel
theorem dX10_twins_27 : decode cX10_twins 27 = .ok (.iload_n 3, 1) := by decide +kernel
theorem dX10_twins_28 : decode cX10_twins 28 = .ok (.aload_n 0, 1) := by decide +kernel
theorem dX10_twins_29 : decode cX10_twins 29 = .ok (.getfield 165, 3) := by decide +kernel
theorem dX10_twins_32 : decode cX10_twins 32 = .ok (.if_icmp .ge 53, 3) := by decide +kernel
theorem dX10_twins_35 : decode cX10_twins 35 = .ok (.aload_n 0, 1) := by decide +kernel
theorem dX10_twins_36 : decode cX10_twins 36 = .ok (.getfield 61, 3) := by decide +kernel
theorem dX10_twins_39 : decode cX10_twins 39 = .ok (.iload_n 3, 1) := by decide +kernel
theorem dX10_twins_40 : decode cX10_twins 40 = .ok (.iaload, 1) := by decide +kernel
theorem dX10_twins_41 : decode cX10_twins 41 = .ok (.iload_n 1, 1) := by decide +kernel
theorem dX10_twins_42 : decode cX10_twins 42 = .ok (.if_icmp .ne 13, 3) := by decide +kernel
theorem dX10_twins_45 : decode cX10_twins 45 = .ok (.aload_n 0, 1) := by decide +kernel
theorem dX10_twins_46 : decode cX10_twins 46 = .ok (.getfield 64, 3) := by decide +kernel
theorem dX10_twins_49 : decode cX10_twins 49 = .ok (.iload_n 3, 1) := by decide +kernel
theorem dX10_twins_50 : decode cX10_twins 50 = .ok (.iaload, 1) := by decide +kernel
theorem dX10_twins_51 : decode cX10_twins 51 = .ok (.iload_n 2, 1) := by decide +kernel
theorem dX10_twins_52 : decode cX10_twins 52 = .ok (.if_icmp .eq 23, 3) := by decide +kernel
theorem dX10_twins_55 : decode cX10_twins 55 = .ok (.aload_n 0, 1) := by decide +kernel
theorem dX10_twins_56 : decode cX10_twins 56 = .ok (.getfield 61, 3) := by decide +kernel
theorem dX10_twins_59 : decode cX10_twins 59 = .ok (.iload_n 3, 1) := by decide +kernel
theorem dX10_twins_60 : decode cX10_twins 60 = .ok (.iaload, 1) := by decide +kernel
theorem dX10_twins_61 : decode cX10_twins 61 = .ok (.iload_n 2, 1) := by decide +kernel
theorem dX10_twins_62 : decode cX10_twins 62 = .ok (.if_icmp .ne 17, 3) := by decide +kernel
theorem dX10_twins_65 : decode cX10_twins 65 = .ok (.aload_n 0, 1) := by decide +kernel
theorem dX10_twins_66 : decode cX10_twins 66 = .ok (.getfield 64, 3) := by decide +kernel
theorem dX10_twins_69 : decode cX10_twins 69 = .ok (.iload_n 3, 1) := by decide +kernel
theorem dX10_twins_70 : decode cX10_twins 70 = .ok (.iaload, 1) := by decide +kernel
theorem dX10_twins_71 : decode cX10_twins 71 = .ok (.iload_n 1, 1) := by decide +kernel
theorem dX10_twins_72 : decode cX10_twins 72 = .ok (.if_icmp .ne 7, 3) := by decide +kernel
theorem dX10_twins_75 : decode cX10_twins 75 = .ok (.sipush (-1003), 3) := by decide +kernel
theorem dX10_twins_78 : decode cX10_twins 78 = .ok (.ireturn, 1) := by decide +kernel
theorem dX10_twins_79 : decode cX10_twins 79 = .ok (.iinc 3 1, 3) := by decide +kernel
theorem dX10_twins_82 : decode cX10_twins 82 = .ok (.goto (-55), 3) := by decide +kernel
theorem dX10_twins_85 : decode cX10_twins 85 = .ok (.aload_n 0, 1) := by decide +kernel
theorem dX10_twins_86 : decode cX10_twins 86 = .ok (.getfield 165, 3) := by decide +kernel
theorem dX10_twins_89 : decode cX10_twins 89 = .ok (.bipush 10, 2) := by decide +kernel
theorem dX10_twins_91 : decode cX10_twins 91 = .ok (.if_icmp .ne 7, 3) := by decide +kernel
theorem dX10_twins_94 : decode cX10_twins 94 = .ok (.sipush (-1004), 3) := by decide +kernel
theorem dX10_twins_97 : decode cX10_twins 97 = .ok (.ireturn, 1) := by decide +kernel
theorem dX10_twins_98 : decode cX10_twins 98 = .ok (.aload_n 0, 1) := by decide +kernel
theorem dX10_twins_99 : decode cX10_twins 99 = .ok (.getfield 61, 3) := by decide +kernel
theorem dX10_twins_102 : decode cX10_twins 102 = .ok (.aload_n 0, 1) := by decide +kernel
theorem dX10_twins_103 : decode cX10_twins 103 = .ok (.getfield 165, 3) := by decide +kernel
theorem dX10_twins_106 : decode cX10_twins 106 = .ok (.iload_n 1, 1) := by decide +kernel
theorem dX10_twins_107 : decode cX10_twins 107 = .ok (.iastore, 1) := by decide +kernel
theorem dX10_twins_108 : decode cX10_twins 108 = .ok (.aload_n 0, 1) := by decide +kernel
theorem dX10_twins_109 : decode cX10_twins 109 = .ok (.getfield 64, 3) := by decide +kernel
theorem dX10_twins_112 : decode cX10_twins 112 = .ok (.aload_n 0, 1) := by decide +kernel
theorem dX10_twins_113 : decode cX10_twins 113 = .ok (.getfield 165, 3) := by decide +kernel
theorem dX10_twins_116 : decode cX10_twins 116 = .ok (.iload_n 2, 1) := by decide +kernel
theorem dX10_twins_117 : decode cX10_twins 117 = .ok (.iastore, 1) := by decide +kernel
theorem dX10_twins_118 : decode cX10_twins 118 = .ok (.aload_n 0, 1) := by decide +kernel
theorem dX10_twins_119 : decode cX10_twins 119 = .ok (.dup, 1) := by decide +kernel
theorem dX10_twins_120 : decode cX10_twins 120 = .ok (.getfield 165, 3) := by decide +kernel
theorem dX10_twins_123 : decode cX10_twins 123 = .ok (.iconst 1, 1) := by decide +kernel
theorem dX10_twins_124 : decode cX10_twins 124 = .ok (.iadd, 1) := by decide +kernel
theorem dX10_twins_125 : decode cX10_twins 125 = .ok (.putfield 165, 3) := by decide +kernel
theorem dX10_twins_128 : decode cX10_twins 128 = .ok (.aload_n 0, 1) := by decide +kernel
theorem dX10_twins_129 : decode cX10_twins 129 = .ok (.getfield 165, 3) := by decide +kernel
theorem dX10_twins_132 : decode cX10_twins 132 = .ok (.ireturn, 1) := by decide +kernel
def BX10_twins_27 (I27 : Int32 → Int32 → Int32 → XT → YT → Prop) (I55 : Int32 → Int32 → Int32 → XT → YT → Prop) (Q : Int32 → XT → YT → Prop) (a1 : Int32) (a2 : Int32) (a3 : Int32) (X : XT) (Y : YT) : Prop :=
  (((X 48 24) ≤ a3 → ((¬ (X 48 24) = 10 → vp_in (X 48 24) 10 ∧ vp_in ((sX X 66 (X 48 24).toNatClampNeg a1) 48 24) 10 ∧ ∀ X3 : XT, X3 = sX (sX X 66 (X 48 24).toNatClampNeg a1) 67 ((sX X 66 (X 48 24).toNatClampNeg a1) 48 24).toNatClampNeg a2 → Q ((sX X3 48 24 ((X3 48 24) + 1)) 48 24) (sX X3 48 24 ((X3 48 24) + 1)) Y) ∧ ((X 48 24) = 10 → Q (-1004) X Y))) ∧ (¬ (X 48 24) ≤ a3 → vp_in a3 10 ∧ ((¬ (X 66 a3.toNatClampNeg) = a1 → I55 a1 a2 a3 X Y) ∧ ((X 66 a3.toNatClampNeg) = a1 → vp_in a3 10 ∧ (((X 67 a3.toNatClampNeg) = a2 → Q (-1003) X Y) ∧ (¬ (X 67 a3.toNatClampNeg) = a2 → I55 a1 a2 a3 X Y))))))
def BX10_twins_55 (I27 : Int32 → Int32 → Int32 → XT → YT → Prop) (I55 : Int32 → Int32 → Int32 → XT → YT → Prop) (Q : Int32 → XT → YT → Prop) (a1 : Int32) (a2 : Int32) (a3 : Int32) (X : XT) (Y : YT) : Prop :=
  vp_in a3 10 ∧ ((¬ (X 66 a3.toNatClampNeg) = a2 → ∀ w2 : Int32, w2 = a3 + 1 → I27 a1 a2 w2 X Y) ∧ ((X 66 a3.toNatClampNeg) = a2 → vp_in a3 10 ∧ ((¬ (X 67 a3.toNatClampNeg) = a1 → ∀ w5 : Int32, w5 = a3 + 1 → I27 a1 a2 w5 X Y) ∧ ((X 67 a3.toNatClampNeg) = a1 → Q (-1003) X Y))))
def BX10_twins_s (I27 : Int32 → Int32 → Int32 → XT → YT → Prop) (I55 : Int32 → Int32 → Int32 → XT → YT → Prop) (Q : Int32 → XT → YT → Prop) (p0 : Int32) (p1 : Int32) (X : XT) (Y : YT) : Prop :=
  PX10_noBar p0 X Y (fun r1 X2 Y3 => ((¬ r1 = 0 → Q (-1001) X2 Y3) ∧ (r1 = 0 → PX10_noBar p1 X2 Y3 (fun r6 X7 Y8 => ((¬ r6 = 0 → Q (-1001) X7 Y8) ∧ (r6 = 0 → ((¬ p0 = p1 → I27 p0 p1 0 X7 Y8) ∧ (p0 = p1 → Q (-1001) X7 Y8))))))))
def PX10_twins (p0 : Int32) (p1 : Int32) (X : XT) (Y : YT) (Q : Int32 → XT → YT → Prop) : Prop := ∀ (I27 : Int32 → Int32 → Int32 → XT → YT → Prop) (I55 : Int32 → Int32 → Int32 → XT → YT → Prop), (∀ (a1 : Int32) (a2 : Int32) (a3 : Int32) (X : XT) (Y : YT), BX10_twins_27 I27 I55 Q a1 a2 a3 X Y → I27 a1 a2 a3 X Y) → (∀ (a1 : Int32) (a2 : Int32) (a3 : Int32) (X : XT) (Y : YT), BX10_twins_55 I27 I55 Q a1 a2 a3 X Y → I55 a1 a2 a3 X Y) → BX10_twins_s I27 I55 Q p0 p1 X Y
set_option maxHeartbeats 4000000 in
set_option maxRecDepth 100000 in
theorem kX10_twins_27 {Γ : Cxt} {Q : Int32 → XT → YT → Prop} (O : Ok Γ RX10 cX10_twins 4 { frames := 2, cells := 0, slots := 0, locals := 46 }) (r : Ret Γ (some .int) (qI Q)) {I27 : Int32 → Int32 → Int32 → XT → YT → Prop} {I55 : Int32 → Int32 → Int32 → XT → YT → Prop} (e27 : ∀ (a1 : Int32) (a2 : Int32) (a3 : Int32) (X : XT) (Y : YT), I27 a1 a2 a3 X Y → V Γ 27 [(0, .ref 48), (1, .int a1), (2, .int a2), (3, .int a3)] [] X Y) (e55 : ∀ (a1 : Int32) (a2 : Int32) (a3 : Int32) (X : XT) (Y : YT), I55 a1 a2 a3 X Y → V Γ 55 [(0, .ref 48), (1, .int a1), (2, .int a2), (3, .int a3)] [] X Y) {a1 : Int32} {a2 : Int32} {a3 : Int32} {X : XT} {Y : YT} (h : BX10_twins_27 I27 I55 Q a1 a2 a3 X Y) : V Γ 27 [(0, .ref 48), (1, .int a1), (2, .int a2), (3, .int a3)] [] X Y := by
  refine v_iload_n O dX10_twins_27 rfl 3 rfl ?_
  refine v_aload_n O dX10_twins_28 rfl 0 rfl ?_
  refine v_get O dX10_twins_29 fo_X10_165 sh_48 rfl rfl ?_
  refine v_icmp_ge (tgt := 85) O dX10_twins_32 (by decide) (fun g1 => ?_) (fun g1 => ?_)
  · refine v_aload_n O dX10_twins_85 rfl 0 rfl ?_
    refine v_get O dX10_twins_86 fo_X10_165 sh_48 rfl rfl ?_
    refine v_bipush O dX10_twins_89 kb_10 ?_
    refine v_icmp_ne (tgt := 98) O dX10_twins_91 (by decide) (fun g2 => ?_) (fun g2 => ?_)
    · refine v_aload_n O dX10_twins_98 rfl 0 rfl ?_
      refine v_get O dX10_twins_99 fo_X10_61 sh_48 rfl rfl ?_
      refine v_aload_n O dX10_twins_102 rfl 0 rfl ?_
      refine v_get O dX10_twins_103 fo_X10_165 sh_48 rfl rfl ?_
      refine v_iload_n O dX10_twins_106 rfl 1 rfl ?_
      refine v_iast O dX10_twins_107 sh_66 ((h.1 g1).1 g2).1 ?_
      refine v_aload_n O dX10_twins_108 rfl 0 rfl ?_
      refine v_get O dX10_twins_109 fo_X10_64 sh_48 rfl rfl ?_
      refine v_aload_n O dX10_twins_112 rfl 0 rfl ?_
      refine v_get O dX10_twins_113 fo_X10_165 sh_48 rfl rfl ?_
      refine v_iload_n O dX10_twins_116 rfl 2 rfl ?_
      refine v_iast O dX10_twins_117 sh_67 ((h.1 g1).1 g2).2.1 ?_
      refine v_nmX (fun X3 hX4 => ?_)
      refine v_aload_n O dX10_twins_118 rfl 0 rfl ?_
      refine v_dup O dX10_twins_119 rfl ?_
      refine v_get O dX10_twins_120 fo_X10_165 sh_48 rfl rfl ?_
      refine v_iconst O dX10_twins_123 kc_1 ?_
      refine v_iadd O dX10_twins_124 ?_
      refine v_putI O dX10_twins_125 fo_X10_165 fp_10_24 sh_48 rfl rfl rfl ?_
      refine v_aload_n O dX10_twins_128 rfl 0 rfl ?_
      refine v_get O dX10_twins_129 fo_X10_165 sh_48 rfl rfl ?_
      exact v_iret O r dX10_twins_132 ⟨_, rfl, (((h.1 g1).1 g2).2.2 X3 hX4)⟩
    · refine v_sipush O dX10_twins_94 ks_m1004 ?_
      exact v_iret O r dX10_twins_97 ⟨_, rfl, ((h.1 g1).2 g2)⟩
  · refine v_aload_n O dX10_twins_35 rfl 0 rfl ?_
    refine v_get O dX10_twins_36 fo_X10_61 sh_48 rfl rfl ?_
    refine v_iload_n O dX10_twins_39 rfl 3 rfl ?_
    refine v_iald O dX10_twins_40 sh_66 (h.2 g1).1 ?_
    refine v_iload_n O dX10_twins_41 rfl 1 rfl ?_
    refine v_icmp_ne (tgt := 55) O dX10_twins_42 (by decide) (fun g5 => ?_) (fun g5 => ?_)
    · exact v_loc [0, 1, 2, 3] rfl (e55 a1 a2 a3 X Y ((h.2 g1).2.1 g5))
    · refine v_aload_n O dX10_twins_45 rfl 0 rfl ?_
      refine v_get O dX10_twins_46 fo_X10_64 sh_48 rfl rfl ?_
      refine v_iload_n O dX10_twins_49 rfl 3 rfl ?_
      refine v_iald O dX10_twins_50 sh_67 ((h.2 g1).2.2 g5).1 ?_
      refine v_iload_n O dX10_twins_51 rfl 2 rfl ?_
      refine v_icmp_eq (tgt := 75) O dX10_twins_52 (by decide) (fun g6 => ?_) (fun g6 => ?_)
      · refine v_sipush O dX10_twins_75 ks_m1003 ?_
        exact v_iret O r dX10_twins_78 ⟨_, rfl, (((h.2 g1).2.2 g5).2.1 g6)⟩
      · exact v_loc [0, 1, 2, 3] rfl (e55 a1 a2 a3 X Y (((h.2 g1).2.2 g5).2.2 g6))
set_option maxHeartbeats 4000000 in
set_option maxRecDepth 100000 in
theorem kX10_twins_55 {Γ : Cxt} {Q : Int32 → XT → YT → Prop} (O : Ok Γ RX10 cX10_twins 4 { frames := 2, cells := 0, slots := 0, locals := 46 }) (r : Ret Γ (some .int) (qI Q)) {I27 : Int32 → Int32 → Int32 → XT → YT → Prop} {I55 : Int32 → Int32 → Int32 → XT → YT → Prop} (e27 : ∀ (a1 : Int32) (a2 : Int32) (a3 : Int32) (X : XT) (Y : YT), I27 a1 a2 a3 X Y → V Γ 27 [(0, .ref 48), (1, .int a1), (2, .int a2), (3, .int a3)] [] X Y) (e55 : ∀ (a1 : Int32) (a2 : Int32) (a3 : Int32) (X : XT) (Y : YT), I55 a1 a2 a3 X Y → V Γ 55 [(0, .ref 48), (1, .int a1), (2, .int a2), (3, .int a3)] [] X Y) {a1 : Int32} {a2 : Int32} {a3 : Int32} {X : XT} {Y : YT} (h : BX10_twins_55 I27 I55 Q a1 a2 a3 X Y) : V Γ 55 [(0, .ref 48), (1, .int a1), (2, .int a2), (3, .int a3)] [] X Y := by
  refine v_aload_n O dX10_twins_55 rfl 0 rfl ?_
  refine v_get O dX10_twins_56 fo_X10_61 sh_48 rfl rfl ?_
  refine v_iload_n O dX10_twins_59 rfl 3 rfl ?_
  refine v_iald O dX10_twins_60 sh_66 h.1 ?_
  refine v_iload_n O dX10_twins_61 rfl 2 rfl ?_
  refine v_icmp_ne (tgt := 79) O dX10_twins_62 (by decide) (fun g1 => ?_) (fun g1 => ?_)
  · obtain ⟨w2, hw3⟩ : ∃ y : Int32, y = a3 + 1 := ⟨_, rfl⟩
    refine v_iinc (v := w2) (j := 3) O dX10_twins_79 rfl (by rw [hw3]; exact congrArg _ kc_1) (by decide) (lv' := [(3, .int w2), (0, .ref 48), (1, .int a1), (2, .int a2)]) rfl ?_
    refine v_goto O dX10_twins_82 (tgt := 27) (by decide) ?_
    exact v_loc [1, 2, 3, 0] rfl (e27 a1 a2 w2 X Y ((h.2.1 g1) w2 hw3))
  · refine v_aload_n O dX10_twins_65 rfl 0 rfl ?_
    refine v_get O dX10_twins_66 fo_X10_64 sh_48 rfl rfl ?_
    refine v_iload_n O dX10_twins_69 rfl 3 rfl ?_
    refine v_iald O dX10_twins_70 sh_67 (h.2.2 g1).1 ?_
    refine v_iload_n O dX10_twins_71 rfl 1 rfl ?_
    refine v_icmp_ne (tgt := 79) O dX10_twins_72 (by decide) (fun g4 => ?_) (fun g4 => ?_)
    · obtain ⟨w5, hw6⟩ : ∃ y : Int32, y = a3 + 1 := ⟨_, rfl⟩
      refine v_iinc (v := w5) (j := 3) O dX10_twins_79 rfl (by rw [hw6]; exact congrArg _ kc_1) (by decide) (lv' := [(3, .int w5), (0, .ref 48), (1, .int a1), (2, .int a2)]) rfl ?_
      refine v_goto O dX10_twins_82 (tgt := 27) (by decide) ?_
      exact v_loc [1, 2, 3, 0] rfl (e27 a1 a2 w5 X Y (((h.2.2 g1).2.1 g4) w5 hw6))
    · refine v_sipush O dX10_twins_75 ks_m1003 ?_
      exact v_iret O r dX10_twins_78 ⟨_, rfl, ((h.2.2 g1).2.2 g4)⟩
set_option maxHeartbeats 4000000 in
set_option maxRecDepth 100000 in
theorem kX10_twins_s {Γ : Cxt} {Q : Int32 → XT → YT → Prop} (O : Ok Γ RX10 cX10_twins 4 { frames := 2, cells := 0, slots := 0, locals := 46 }) (r : Ret Γ (some .int) (qI Q)) {I27 : Int32 → Int32 → Int32 → XT → YT → Prop} {I55 : Int32 → Int32 → Int32 → XT → YT → Prop} (e27 : ∀ (a1 : Int32) (a2 : Int32) (a3 : Int32) (X : XT) (Y : YT), I27 a1 a2 a3 X Y → V Γ 27 [(0, .ref 48), (1, .int a1), (2, .int a2), (3, .int a3)] [] X Y) (e55 : ∀ (a1 : Int32) (a2 : Int32) (a3 : Int32) (X : XT) (Y : YT), I55 a1 a2 a3 X Y → V Γ 55 [(0, .ref 48), (1, .int a1), (2, .int a2), (3, .int a3)] [] X Y) {p0 : Int32} {p1 : Int32} {X : XT} {Y : YT} (h : BX10_twins_s I27 I55 Q p0 p1 X Y) : V Γ 0 [(0, .ref 48), (1, .int p0), (2, .int p1)] [] X Y := by
  refine v_aload_n O dX10_twins_0 rfl 0 rfl ?_
  refine v_iload_n O dX10_twins_1 rfl 1 rfl ?_
  refine v_callV (rm' := { frames := 1, cells := 0, slots := 0, locals := 25 }) (As := [.int p0]) (st := []) O dX10_twins_2 ci_X10_noBar ml_X10_231 mi_X10_noBar sh_48 rfl ⟨rfl, rfl, (by decide), (by decide)⟩ rfl (Nat.le_of_ble_eq_true rfl) rfl (mX10_noBar h) (k_I (fun r1 X2 Y3 h4 => ?_))
  refine v_if_ne (tgt := 21) O dX10_twins_5 (by decide) (fun g5 => ?_) (fun g5 => ?_)
  · refine v_sipush O dX10_twins_21 ks_m1001 ?_
    exact v_iret O r dX10_twins_24 ⟨_, rfl, (h4.1 g5)⟩
  · refine v_aload_n O dX10_twins_8 rfl 0 rfl ?_
    refine v_iload_n O dX10_twins_9 rfl 2 rfl ?_
    refine v_callV (rm' := { frames := 1, cells := 0, slots := 0, locals := 25 }) (As := [.int p1]) (st := []) O dX10_twins_10 ci_X10_noBar ml_X10_231 mi_X10_noBar sh_48 rfl ⟨rfl, rfl, (by decide), (by decide)⟩ rfl (Nat.le_of_ble_eq_true rfl) rfl (mX10_noBar (h4.2 g5)) (k_I (fun r6 X7 Y8 h9 => ?_))
    refine v_if_ne (tgt := 21) O dX10_twins_13 (by decide) (fun g10 => ?_) (fun g10 => ?_)
    · refine v_sipush O dX10_twins_21 ks_m1001 ?_
      exact v_iret O r dX10_twins_24 ⟨_, rfl, (h9.1 g10)⟩
    · refine v_iload_n O dX10_twins_16 rfl 1 rfl ?_
      refine v_iload_n O dX10_twins_17 rfl 2 rfl ?_
      refine v_icmp_ne (tgt := 25) O dX10_twins_18 (by decide) (fun g11 => ?_) (fun g11 => ?_)
      · refine v_iconst O dX10_twins_25 kc_0 ?_
        refine v_istore_n (lv' := [(3, .int 0), (0, .ref 48), (1, .int p0), (2, .int p1)]) O dX10_twins_26 rfl (by decide) rfl ?_
        exact v_loc [1, 2, 3, 0] rfl (e27 p0 p1 0 X7 Y8 ((h9.2 g10).1 g11))
      · refine v_sipush O dX10_twins_21 ks_m1001 ?_
        exact v_iret O r dX10_twins_24 ⟨_, rfl, ((h9.2 g10).2 g11)⟩
set_option maxRecDepth 100000 in
theorem mX10_twins {Γ : Cxt} {p0 : Int32} {p1 : Int32} {X : XT} {Y : YT} {Q : Int32 → XT → YT → Prop} (h : PX10_twins p0 p1 X Y Q) : MT Γ yX10_twins (.code yX10_twins cX10_twins 4 (some .int) :: wl) { frames := 2, cells := 0, slots := 0, locals := 46 } [.ref 48, .int p0, .int p1] X Y (qI Q) :=
  mt_of (by decide) (Nat.le_of_ble_eq_true rfl) (fun Γ _ O r => kX10_twins_s O r (fun _ _ _ _ _ g => g) (fun _ _ _ _ _ g => g) (h (fun a1 a2 a3 X Y => V Γ 27 [(0, .ref 48), (1, .int a1), (2, .int a2), (3, .int a3)] [] X Y) (fun a1 a2 a3 X Y => V Γ 55 [(0, .ref 48), (1, .int a1), (2, .int a2), (3, .int a3)] [] X Y) (fun _ _ _ _ _ g => kX10_twins_27 O r (fun _ _ _ _ _ g => g) (fun _ _ _ _ _ g => g) g) (fun _ _ _ _ _ g => kX10_twins_55 O r (fun _ _ _ _ _ g => g) (fun _ _ _ _ _ g => g) g)))
theorem dX10_findOpen_0 : decode cX10_findOpen 0 = .ok (.aload_n 0, 1) := by decide +kernel
theorem dX10_findOpen_1 : decode cX10_findOpen 1 = .ok (.iconst 0, 1) := by decide +kernel
theorem dX10_findOpen_2 : decode cX10_findOpen 2 = .ok (.putfield 234, 3) := by decide +kernel
theorem dX10_findOpen_5 : decode cX10_findOpen 5 = .ok (.iconst 0, 1) := by decide +kernel
theorem dX10_findOpen_6 : decode cX10_findOpen 6 = .ok (.istore_n 1, 1) := by decide +kernel
theorem dX10_findOpen_7 : decode cX10_findOpen 7 = .ok (.iload_n 1, 1) := by decide +kernel
theorem dX10_findOpen_8 : decode cX10_findOpen 8 = .ok (.aload_n 0, 1) := by decide +kernel
theorem dX10_findOpen_9 : decode cX10_findOpen 9 = .ok (.getfield 159, 3) := by decide +kernel
theorem dX10_findOpen_12 : decode cX10_findOpen 12 = .ok (.if_icmp .ge 47, 3) := by decide +kernel
theorem dX10_findOpen_15 : decode cX10_findOpen 15 = .ok (.aload_n 0, 1) := by decide +kernel
theorem dX10_findOpen_16 : decode cX10_findOpen 16 = .ok (.getfield 234, 3) := by decide +kernel
theorem dX10_findOpen_19 : decode cX10_findOpen 19 = .ok (.bipush 8, 2) := by decide +kernel
theorem dX10_findOpen_21 : decode cX10_findOpen 21 = .ok (.if_icmp .ge 38, 3) := by decide +kernel
theorem dX10_findOpen_24 : decode cX10_findOpen 24 = .ok (.aload_n 0, 1) := by decide +kernel
theorem dX10_findOpen_25 : decode cX10_findOpen 25 = .ok (.getfield 49, 3) := by decide +kernel
theorem dX10_findOpen_28 : decode cX10_findOpen 28 = .ok (.iload_n 1, 1) := by decide +kernel
theorem dX10_findOpen_29 : decode cX10_findOpen 29 = .ok (.iaload, 1) := by decide +kernel
theorem dX10_findOpen_30 : decode cX10_findOpen 30 = .ok (.ifCond .lt 23, 3) := by decide +kernel
theorem dX10_findOpen_33 : decode cX10_findOpen 33 = .ok (.aload_n 0, 1) := by decide +kernel
theorem dX10_findOpen_34 : decode cX10_findOpen 34 = .ok (.getfield 89, 3) := by decide +kernel
theorem dX10_findOpen_37 : decode cX10_findOpen 37 = .ok (.aload_n 0, 1) := by decide +kernel
theorem dX10_findOpen_38 : decode cX10_findOpen 38 = .ok (.getfield 234, 3) := by decide +kernel
theorem dX10_findOpen_41 : decode cX10_findOpen 41 = .ok (.iload_n 1, 1) := by decide +kernel
theorem dX10_findOpen_42 : decode cX10_findOpen 42 = .ok (.iastore, 1) := by decide +kernel
theorem dX10_findOpen_43 : decode cX10_findOpen 43 = .ok (.aload_n 0, 1) := by decide +kernel
theorem dX10_findOpen_44 : decode cX10_findOpen 44 = .ok (.dup, 1) := by decide +kernel
theorem dX10_findOpen_45 : decode cX10_findOpen 45 = .ok (.getfield 234, 3) := by decide +kernel
theorem dX10_findOpen_48 : decode cX10_findOpen 48 = .ok (.iconst 1, 1) := by decide +kernel
theorem dX10_findOpen_49 : decode cX10_findOpen 49 = .ok (.iadd, 1) := by decide +kernel
theorem dX10_findOpen_50 : decode cX10_findOpen 50 = .ok (.putfield 234, 3) := by decide +kernel
theorem dX10_findOpen_53 : decode cX10_findOpen 53 = .ok (.iinc 1 1, 3) := by decide +kernel
theorem dX10_findOpen_56 : decode cX10_findOpen 56 = .ok (.goto (-49), 3) := by decide +kernel
theorem dX10_findOpen_59 : decode cX10_findOpen 59 = .ok (.return_, 1) := by decide +kernel
def BX10_findOpen_7 (I7 : Int32 → XT → YT → Prop) (Q : XT → YT → Prop) (a1 : Int32) (X : XT) (Y : YT) : Prop :=
  (((X 48 16) ≤ a1 → Q X Y) ∧ (¬ (X 48 16) ≤ a1 → ((8 ≤ (X 48 46) → Q X Y) ∧ (¬ 8 ≤ (X 48 46) → vp_in a1 32 ∧ (((X 62 a1.toNatClampNeg) < 0 → ∀ w4 : Int32, w4 = a1 + 1 → I7 w4 X Y) ∧ (¬ (X 62 a1.toNatClampNeg) < 0 → vp_in (X 48 46) 8 ∧ ∀ X6 : XT, X6 = sX (sX X 74 (X 48 46).toNatClampNeg a1) 48 46 (((sX X 74 (X 48 46).toNatClampNeg a1) 48 46) + 1) → ∀ w8 : Int32, w8 = a1 + 1 → I7 w8 X6 Y))))))
def BX10_findOpen_s (I7 : Int32 → XT → YT → Prop) (Q : XT → YT → Prop) (X : XT) (Y : YT) : Prop :=
  I7 0 (sX X 48 46 0) Y
def PX10_findOpen (X : XT) (Y : YT) (Q : XT → YT → Prop) : Prop := ∀ (I7 : Int32 → XT → YT → Prop), (∀ (a1 : Int32) (X : XT) (Y : YT), BX10_findOpen_7 I7 Q a1 X Y → I7 a1 X Y) → BX10_findOpen_s I7 Q X Y
set_option maxHeartbeats 4000000 in
set_option maxRecDepth 100000 in
theorem kX10_findOpen_7 {Γ : Cxt} {Q : XT → YT → Prop} (O : Ok Γ RX10 cX10_findOpen 2 { frames := 0, cells := 0, slots := 0, locals := 0 }) (r : Ret Γ none (qV Q)) {I7 : Int32 → XT → YT → Prop} (e7 : ∀ (a1 : Int32) (X : XT) (Y : YT), I7 a1 X Y → V Γ 7 [(0, .ref 48), (1, .int a1)] [] X Y) {a1 : Int32} {X : XT} {Y : YT} (h : BX10_findOpen_7 I7 Q a1 X Y) : V Γ 7 [(0, .ref 48), (1, .int a1)] [] X Y := by
  refine v_iload_n O dX10_findOpen_7 rfl 1 rfl ?_
  refine v_aload_n O dX10_findOpen_8 rfl 0 rfl ?_
  refine v_get O dX10_findOpen_9 fo_X10_159 sh_48 rfl rfl ?_
  refine v_icmp_ge (tgt := 59) O dX10_findOpen_12 (by decide) (fun g1 => ?_) (fun g1 => ?_)
  · exact v_vret O r dX10_findOpen_59 ⟨rfl, (h.1 g1)⟩
  · refine v_aload_n O dX10_findOpen_15 rfl 0 rfl ?_
    refine v_get O dX10_findOpen_16 fo_X10_234 sh_48 rfl rfl ?_
    refine v_bipush O dX10_findOpen_19 kb_8 ?_
    refine v_icmp_ge (tgt := 59) O dX10_findOpen_21 (by decide) (fun g2 => ?_) (fun g2 => ?_)
    · exact v_vret O r dX10_findOpen_59 ⟨rfl, ((h.2 g1).1 g2)⟩
    · refine v_aload_n O dX10_findOpen_24 rfl 0 rfl ?_
      refine v_get O dX10_findOpen_25 fo_X10_49 sh_48 rfl rfl ?_
      refine v_iload_n O dX10_findOpen_28 rfl 1 rfl ?_
      refine v_iald O dX10_findOpen_29 sh_62 ((h.2 g1).2 g2).1 ?_
      refine v_if_lt (tgt := 53) O dX10_findOpen_30 (by decide) (fun g3 => ?_) (fun g3 => ?_)
      · obtain ⟨w4, hw5⟩ : ∃ y : Int32, y = a1 + 1 := ⟨_, rfl⟩
        refine v_iinc (v := w4) (j := 1) O dX10_findOpen_53 rfl (by rw [hw5]; exact congrArg _ kc_1) (by decide) (lv' := [(1, .int w4), (0, .ref 48)]) rfl ?_
        refine v_goto O dX10_findOpen_56 (tgt := 7) (by decide) ?_
        exact v_loc [1, 0] rfl (e7 w4 X Y ((((h.2 g1).2 g2).2.1 g3) w4 hw5))
      · refine v_aload_n O dX10_findOpen_33 rfl 0 rfl ?_
        refine v_get O dX10_findOpen_34 fo_X10_89 sh_48 rfl rfl ?_
        refine v_aload_n O dX10_findOpen_37 rfl 0 rfl ?_
        refine v_get O dX10_findOpen_38 fo_X10_234 sh_48 rfl rfl ?_
        refine v_iload_n O dX10_findOpen_41 rfl 1 rfl ?_
        refine v_iast O dX10_findOpen_42 sh_74 (((h.2 g1).2 g2).2.2 g3).1 ?_
        refine v_aload_n O dX10_findOpen_43 rfl 0 rfl ?_
        refine v_dup O dX10_findOpen_44 rfl ?_
        refine v_get O dX10_findOpen_45 fo_X10_234 sh_48 rfl rfl ?_
        refine v_iconst O dX10_findOpen_48 kc_1 ?_
        refine v_iadd O dX10_findOpen_49 ?_
        refine v_putI O dX10_findOpen_50 fo_X10_234 fp_10_46 sh_48 rfl rfl rfl ?_
        refine v_nmX (fun X6 hX7 => ?_)
        obtain ⟨w8, hw9⟩ : ∃ y : Int32, y = a1 + 1 := ⟨_, rfl⟩
        refine v_iinc (v := w8) (j := 1) O dX10_findOpen_53 rfl (by rw [hw9]; exact congrArg _ kc_1) (by decide) (lv' := [(1, .int w8), (0, .ref 48)]) rfl ?_
        refine v_goto O dX10_findOpen_56 (tgt := 7) (by decide) ?_
        exact v_loc [1, 0] rfl (e7 w8 X6 Y (((((h.2 g1).2 g2).2.2 g3).2 X6 hX7) w8 hw9))
set_option maxHeartbeats 4000000 in
set_option maxRecDepth 100000 in
theorem kX10_findOpen_s {Γ : Cxt} {Q : XT → YT → Prop} (O : Ok Γ RX10 cX10_findOpen 2 { frames := 0, cells := 0, slots := 0, locals := 0 }) (r : Ret Γ none (qV Q)) {I7 : Int32 → XT → YT → Prop} (e7 : ∀ (a1 : Int32) (X : XT) (Y : YT), I7 a1 X Y → V Γ 7 [(0, .ref 48), (1, .int a1)] [] X Y) {X : XT} {Y : YT} (h : BX10_findOpen_s I7 Q X Y) : V Γ 0 [(0, .ref 48)] [] X Y := by
  refine v_aload_n O dX10_findOpen_0 rfl 0 rfl ?_
  refine v_iconst O dX10_findOpen_1 kc_0 ?_
  refine v_putI O dX10_findOpen_2 fo_X10_234 fp_10_46 sh_48 rfl rfl rfl ?_
  refine v_iconst O dX10_findOpen_5 kc_0 ?_
  refine v_istore_n (lv' := [(1, .int 0), (0, .ref 48)]) O dX10_findOpen_6 rfl (by decide) rfl ?_
  exact v_loc [1, 0] rfl (e7 0 (sX X 48 46 0) Y h)
set_option maxRecDepth 100000 in
theorem mX10_findOpen {Γ : Cxt} {X : XT} {Y : YT} {Q : XT → YT → Prop} (h : PX10_findOpen X Y Q) : MT Γ yX10_findOpen (.code yX10_findOpen cX10_findOpen 2 none :: wl) { frames := 0, cells := 0, slots := 0, locals := 0 } [.ref 48] X Y (qV Q) :=
  mt_of (by decide) (Nat.le_of_ble_eq_true rfl) (fun Γ _ O r => kX10_findOpen_s O r (fun _ _ _ g => g) (h (fun a1 X Y => V Γ 7 [(0, .ref 48), (1, .int a1)] [] X Y) (fun _ _ _ g => kX10_findOpen_7 O r (fun _ _ _ g => g) g)))
theorem dX10_isBarred_0 : decode cX10_isBarred 0 = .ok (.iconst 0, 1) := by decide +kernel
theorem dX10_isBarred_1 : decode cX10_isBarred 1 = .ok (.istore_n 2, 1) := by decide +kernel
theorem dX10_isBarred_2 : decode cX10_isBarred 2 = .ok (.iconst 0, 1) := by decide +kernel
theorem dX10_isBarred_3 : decode cX10_isBarred 3 = .ok (.istore_n 3, 1) := by decide +kernel
theorem dX10_isBarred_4 : decode cX10_isBarred 4 = .ok (.iload_n 3, 1) := by decide +kernel
theorem dX10_isBarred_5 : decode cX10_isBarred 5 = .ok (.aload_n 0, 1) := by decide +kernel
theorem dX10_isBarred_6 : decode cX10_isBarred 6 = .ok (.getfield 234, 3) := by decide +kernel
theorem dX10_isBarred_9 : decode cX10_isBarred 9 = .ok (.if_icmp .ge 41, 3) := by decide +kernel
theorem dX10_isBarred_12 : decode cX10_isBarred 12 = .ok (.iload_n 2, 1) := by decide +kernel
theorem dX10_isBarred_13 : decode cX10_isBarred 13 = .ok (.ifCond .ne 25, 3) := by decide +kernel
theorem dX10_isBarred_16 : decode cX10_isBarred 16 = .ok (.aload_n 0, 1) := by decide +kernel
theorem dX10_isBarred_17 : decode cX10_isBarred 17 = .ok (.getfield 89, 3) := by decide +kernel
theorem dX10_isBarred_20 : decode cX10_isBarred 20 = .ok (.iload_n 3, 1) := by decide +kernel
theorem dX10_isBarred_21 : decode cX10_isBarred 21 = .ok (.iaload, 1) := by decide +kernel
theorem dX10_isBarred_22 : decode cX10_isBarred 22 = .ok (.iload_n 1, 1) := by decide +kernel
theorem dX10_isBarred_23 : decode cX10_isBarred 23 = .ok (.if_icmp .ne 19, 3) := by decide +kernel
theorem dX10_isBarred_26 : decode cX10_isBarred 26 = .ok (.aload_n 0, 1) := by decide +kernel
theorem dX10_isBarred_27 : decode cX10_isBarred 27 = .ok (.getfield 237, 3) := by decide +kernel
theorem dX10_isBarred_30 : decode cX10_isBarred 30 = .ok (.iload_n 3, 1) := by decide +kernel
theorem dX10_isBarred_31 : decode cX10_isBarred 31 = .ok (.ishr, 1) := by decide +kernel
theorem dX10_isBarred_32 : decode cX10_isBarred 32 = .ok (.iconst 1, 1) := by decide +kernel
theorem dX10_isBarred_33 : decode cX10_isBarred 33 = .ok (.iand, 1) := by decide +kernel
theorem dX10_isBarred_34 : decode cX10_isBarred 34 = .ok (.iconst 1, 1) := by decide +kernel
theorem dX10_isBarred_35 : decode cX10_isBarred 35 = .ok (.if_icmp .ne 7, 3) := by decide +kernel
theorem dX10_isBarred_38 : decode cX10_isBarred 38 = .ok (.iconst 1, 1) := by decide +kernel
theorem dX10_isBarred_39 : decode cX10_isBarred 39 = .ok (.goto 4, 3) := by decide +kernel
theorem dX10_isBarred_42 : decode cX10_isBarred 42 = .ok (.iconst 0, 1) := by decide +kernel
theorem dX10_isBarred_43 : decode cX10_isBarred 43 = .ok (.istore_n 2, 1) := by decide +kernel
theorem dX10_isBarred_44 : decode cX10_isBarred 44 = .ok (.iinc 3 1, 3) := by decide +kernel
theorem dX10_isBarred_47 : decode cX10_isBarred 47 = .ok (.goto (-43), 3) := by decide +kernel
theorem dX10_isBarred_50 : decode cX10_isBarred 50 = .ok (.iload_n 2, 1) := by decide +kernel
theorem dX10_isBarred_51 : decode cX10_isBarred 51 = .ok (.ireturn, 1) := by decide +kernel
def BX10_isBarred_4 (I4 : Int32 → Int32 → Int32 → XT → YT → Prop) (Q : Int32 → XT → YT → Prop) (a1 : Int32) (a2 : Int32) (a3 : Int32) (X : XT) (Y : YT) : Prop :=
  (((X 48 46) ≤ a3 → narrow .boolean (.int a2) = .int a2 ∧ Q a2 X Y) ∧ (¬ (X 48 46) ≤ a3 → ((¬ a2 = 0 → ∀ w3 : Int32, w3 = a3 + 1 → I4 a1 1 w3 X Y) ∧ (a2 = 0 → vp_in a3 8 ∧ ((¬ (X 74 a3.toNatClampNeg) = a1 → ∀ w6 : Int32, w6 = a3 + 1 → I4 a1 0 w6 X Y) ∧ ((X 74 a3.toNatClampNeg) = a1 → ((¬ (((X 48 38) >>> (a3 &&& 31)) &&& 1) = 1 → ∀ w9 : Int32, w9 = a3 + 1 → I4 a1 0 w9 X Y) ∧ ((((X 48 38) >>> (a3 &&& 31)) &&& 1) = 1 → ∀ w11 : Int32, w11 = a3 + 1 → I4 a1 1 w11 X Y))))))))
def BX10_isBarred_s (I4 : Int32 → Int32 → Int32 → XT → YT → Prop) (Q : Int32 → XT → YT → Prop) (p0 : Int32) (X : XT) (Y : YT) : Prop :=
  I4 p0 0 0 X Y
def PX10_isBarred (p0 : Int32) (X : XT) (Y : YT) (Q : Int32 → XT → YT → Prop) : Prop := ∀ (I4 : Int32 → Int32 → Int32 → XT → YT → Prop), (∀ (a1 : Int32) (a2 : Int32) (a3 : Int32) (X : XT) (Y : YT), BX10_isBarred_4 I4 Q a1 a2 a3 X Y → I4 a1 a2 a3 X Y) → BX10_isBarred_s I4 Q p0 X Y
set_option maxHeartbeats 4000000 in
set_option maxRecDepth 100000 in
theorem kX10_isBarred_4 {Γ : Cxt} {Q : Int32 → XT → YT → Prop} (O : Ok Γ RX10 cX10_isBarred 4 { frames := 0, cells := 0, slots := 0, locals := 0 }) (r : Ret Γ (some .boolean) (qI Q)) {I4 : Int32 → Int32 → Int32 → XT → YT → Prop} (e4 : ∀ (a1 : Int32) (a2 : Int32) (a3 : Int32) (X : XT) (Y : YT), I4 a1 a2 a3 X Y → V Γ 4 [(0, .ref 48), (1, .int a1), (2, .int a2), (3, .int a3)] [] X Y) {a1 : Int32} {a2 : Int32} {a3 : Int32} {X : XT} {Y : YT} (h : BX10_isBarred_4 I4 Q a1 a2 a3 X Y) : V Γ 4 [(0, .ref 48), (1, .int a1), (2, .int a2), (3, .int a3)] [] X Y := by
  refine v_iload_n O dX10_isBarred_4 rfl 3 rfl ?_
  refine v_aload_n O dX10_isBarred_5 rfl 0 rfl ?_
  refine v_get O dX10_isBarred_6 fo_X10_234 sh_48 rfl rfl ?_
  refine v_icmp_ge (tgt := 50) O dX10_isBarred_9 (by decide) (fun g1 => ?_) (fun g1 => ?_)
  · refine v_iload_n O dX10_isBarred_50 rfl 2 rfl ?_
    exact v_zret O r dX10_isBarred_51 (h.1 g1).1 ⟨_, rfl, (h.1 g1).2⟩
  · refine v_iload_n O dX10_isBarred_12 rfl 2 rfl ?_
    refine v_if_ne (tgt := 38) O dX10_isBarred_13 (by decide) (fun g2 => ?_) (fun g2 => ?_)
    · refine v_iconst O dX10_isBarred_38 kc_1 ?_
      refine v_goto O dX10_isBarred_39 (tgt := 43) (by decide) ?_
      refine v_istore_n (lv' := [(2, .int 1), (0, .ref 48), (1, .int a1), (3, .int a3)]) O dX10_isBarred_43 rfl (by decide) rfl ?_
      obtain ⟨w3, hw4⟩ : ∃ y : Int32, y = a3 + 1 := ⟨_, rfl⟩
      refine v_iinc (v := w3) (j := 3) O dX10_isBarred_44 rfl (by rw [hw4]; exact congrArg _ kc_1) (by decide) (lv' := [(3, .int w3), (2, .int 1), (0, .ref 48), (1, .int a1)]) rfl ?_
      refine v_goto O dX10_isBarred_47 (tgt := 4) (by decide) ?_
      exact v_loc [2, 3, 1, 0] rfl (e4 a1 1 w3 X Y (((h.2 g1).1 g2) w3 hw4))
    · refine v_aload_n O dX10_isBarred_16 rfl 0 rfl ?_
      refine v_get O dX10_isBarred_17 fo_X10_89 sh_48 rfl rfl ?_
      refine v_iload_n O dX10_isBarred_20 rfl 3 rfl ?_
      refine v_iald O dX10_isBarred_21 sh_74 ((h.2 g1).2 g2).1 ?_
      refine v_iload_n O dX10_isBarred_22 rfl 1 rfl ?_
      refine v_icmp_ne (tgt := 42) O dX10_isBarred_23 (by decide) (fun g5 => ?_) (fun g5 => ?_)
      · refine v_iconst O dX10_isBarred_42 kc_0 ?_
        refine v_istore_n (lv' := [(2, .int 0), (0, .ref 48), (1, .int a1), (3, .int a3)]) O dX10_isBarred_43 rfl (by decide) rfl ?_
        obtain ⟨w6, hw7⟩ : ∃ y : Int32, y = a3 + 1 := ⟨_, rfl⟩
        refine v_iinc (v := w6) (j := 3) O dX10_isBarred_44 rfl (by rw [hw7]; exact congrArg _ kc_1) (by decide) (lv' := [(3, .int w6), (2, .int 0), (0, .ref 48), (1, .int a1)]) rfl ?_
        refine v_goto O dX10_isBarred_47 (tgt := 4) (by decide) ?_
        exact v_loc [2, 3, 1, 0] rfl (e4 a1 0 w6 X Y ((((h.2 g1).2 g2).2.1 g5) w6 hw7))
      · refine v_aload_n O dX10_isBarred_26 rfl 0 rfl ?_
        refine v_get O dX10_isBarred_27 fo_X10_237 sh_48 rfl rfl ?_
        refine v_iload_n O dX10_isBarred_30 rfl 3 rfl ?_
        refine v_ishr O dX10_isBarred_31 ?_
        refine v_iconst O dX10_isBarred_32 kc_1 ?_
        refine v_iand O dX10_isBarred_33 ?_
        refine v_iconst O dX10_isBarred_34 kc_1 ?_
        refine v_icmp_ne (tgt := 42) O dX10_isBarred_35 (by decide) (fun g8 => ?_) (fun g8 => ?_)
        · refine v_iconst O dX10_isBarred_42 kc_0 ?_
          refine v_istore_n (lv' := [(2, .int 0), (0, .ref 48), (1, .int a1), (3, .int a3)]) O dX10_isBarred_43 rfl (by decide) rfl ?_
          obtain ⟨w9, hw10⟩ : ∃ y : Int32, y = a3 + 1 := ⟨_, rfl⟩
          refine v_iinc (v := w9) (j := 3) O dX10_isBarred_44 rfl (by rw [hw10]; exact congrArg _ kc_1) (by decide) (lv' := [(3, .int w9), (2, .int 0), (0, .ref 48), (1, .int a1)]) rfl ?_
          refine v_goto O dX10_isBarred_47 (tgt := 4) (by decide) ?_
          exact v_loc [2, 3, 1, 0] rfl (e4 a1 0 w9 X Y (((((h.2 g1).2 g2).2.2 g5).1 g8) w9 hw10))
        · refine v_iconst O dX10_isBarred_38 kc_1 ?_
          refine v_goto O dX10_isBarred_39 (tgt := 43) (by decide) ?_
          refine v_istore_n (lv' := [(2, .int 1), (0, .ref 48), (1, .int a1), (3, .int a3)]) O dX10_isBarred_43 rfl (by decide) rfl ?_
          obtain ⟨w11, hw12⟩ : ∃ y : Int32, y = a3 + 1 := ⟨_, rfl⟩
          refine v_iinc (v := w11) (j := 3) O dX10_isBarred_44 rfl (by rw [hw12]; exact congrArg _ kc_1) (by decide) (lv' := [(3, .int w11), (2, .int 1), (0, .ref 48), (1, .int a1)]) rfl ?_
          refine v_goto O dX10_isBarred_47 (tgt := 4) (by decide) ?_
          exact v_loc [2, 3, 1, 0] rfl (e4 a1 1 w11 X Y (((((h.2 g1).2 g2).2.2 g5).2 g8) w11 hw12))
set_option maxHeartbeats 4000000 in
set_option maxRecDepth 100000 in
theorem kX10_isBarred_s {Γ : Cxt} {Q : Int32 → XT → YT → Prop} (O : Ok Γ RX10 cX10_isBarred 4 { frames := 0, cells := 0, slots := 0, locals := 0 }) (r : Ret Γ (some .boolean) (qI Q)) {I4 : Int32 → Int32 → Int32 → XT → YT → Prop} (e4 : ∀ (a1 : Int32) (a2 : Int32) (a3 : Int32) (X : XT) (Y : YT), I4 a1 a2 a3 X Y → V Γ 4 [(0, .ref 48), (1, .int a1), (2, .int a2), (3, .int a3)] [] X Y) {p0 : Int32} {X : XT} {Y : YT} (h : BX10_isBarred_s I4 Q p0 X Y) : V Γ 0 [(0, .ref 48), (1, .int p0)] [] X Y := by
  refine v_iconst O dX10_isBarred_0 kc_0 ?_
  refine v_istore_n (lv' := [(2, .int 0), (0, .ref 48), (1, .int p0)]) O dX10_isBarred_1 rfl (by decide) rfl ?_
  refine v_iconst O dX10_isBarred_2 kc_0 ?_
  refine v_istore_n (lv' := [(3, .int 0), (2, .int 0), (0, .ref 48), (1, .int p0)]) O dX10_isBarred_3 rfl (by decide) rfl ?_
  exact v_loc [2, 3, 1, 0] rfl (e4 p0 0 0 X Y h)
set_option maxRecDepth 100000 in
theorem mX10_isBarred {Γ : Cxt} {p0 : Int32} {X : XT} {Y : YT} {Q : Int32 → XT → YT → Prop} (h : PX10_isBarred p0 X Y Q) : MT Γ yX10_isBarred (.code yX10_isBarred cX10_isBarred 4 (some .boolean) :: wl) { frames := 0, cells := 0, slots := 0, locals := 0 } [.ref 48, .int p0] X Y (qI Q) :=
  mt_of (by decide) (Nat.le_of_ble_eq_true rfl) (fun Γ _ O r => kX10_isBarred_s O r (fun _ _ _ _ _ g => g) (h (fun a1 a2 a3 X Y => V Γ 4 [(0, .ref 48), (1, .int a1), (2, .int a2), (3, .int a3)] [] X Y) (fun _ _ _ _ _ g => kX10_isBarred_4 O r (fun _ _ _ _ _ g => g) g)))
theorem dX10_begin_0 : decode cX10_begin 0 = .ok (.aload_n 0, 1) := by decide +kernel
theorem dX10_begin_1 : decode cX10_begin 1 = .ok (.iconst 1, 1) := by decide +kernel
theorem dX10_begin_2 : decode cX10_begin 2 = .ok (.aload_n 0, 1) := by decide +kernel
theorem dX10_begin_3 : decode cX10_begin 3 = .ok (.getfield 156, 3) := by decide +kernel
theorem dX10_begin_6 : decode cX10_begin 6 = .ok (.ishl, 1) := by decide +kernel
theorem dX10_begin_7 : decode cX10_begin 7 = .ok (.iconst 1, 1) := by decide +kernel
theorem dX10_begin_8 : decode cX10_begin 8 = .ok (.isub, 1) := by decide +kernel
theorem dX10_begin_9 : decode cX10_begin 9 = .ok (.putfield 240, 3) := by decide +kernel
theorem dX10_begin_12 : decode cX10_begin 12 = .ok (.aload_n 0, 1) := by decide +kernel
theorem dX10_begin_13 : decode cX10_begin 13 = .ok (.iconst 0, 1) := by decide +kernel
theorem dX10_begin_14 : decode cX10_begin 14 = .ok (.putfield 237, 3) := by decide +kernel
theorem dX10_begin_17 : decode cX10_begin 17 = .ok (.aload_n 0, 1) := by decide +kernel
theorem dX10_begin_18 : decode cX10_begin 18 = .ok (.iconst 0, 1) := by decide +kernel
theorem dX10_begin_19 : decode cX10_begin 19 = .ok (.putfield 243, 3) := by decide +kernel
theorem dX10_begin_22 : decode cX10_begin 22 = .ok (.aload_n 0, 1) := by decide +kernel
theorem dX10_begin_23 : decode cX10_begin 23 = .ok (.aload_n 0, 1) := by decide +kernel
theorem dX10_begin_24 : decode cX10_begin 24 = .ok (.getfield 146, 3) := by decide +kernel
theorem dX10_begin_27 : decode cX10_begin 27 = .ok (.putfield 246, 3) := by decide +kernel
theorem dX10_begin_30 : decode cX10_begin 30 = .ok (.aload_n 0, 1) := by decide +kernel
theorem dX10_begin_31 : decode cX10_begin 31 = .ok (.iconst (-1), 1) := by decide +kernel
theorem dX10_begin_32 : decode cX10_begin 32 = .ok (.putfield 249, 3) := by decide +kernel
theorem dX10_begin_35 : decode cX10_begin 35 = .ok (.aload_n 0, 1) := by decide +kernel
theorem dX10_begin_36 : decode cX10_begin 36 = .ok (.iconst (-1), 1) := by decide +kernel
theorem dX10_begin_37 : decode cX10_begin 37 = .ok (.putfield 252, 3) := by decide +kernel
theorem dX10_begin_40 : decode cX10_begin 40 = .ok (.iconst 0, 1) := by decide +kernel
theorem dX10_begin_41 : decode cX10_begin 41 = .ok (.istore_n 1, 1) := by decide +kernel
theorem dX10_begin_42 : decode cX10_begin 42 = .ok (.iload_n 1, 1) := by decide +kernel
theorem dX10_begin_43 : decode cX10_begin 43 = .ok (.bipush 10, 2) := by decide +kernel
theorem dX10_begin_45 : decode cX10_begin 45 = .ok (.if_icmp .ge 16, 3) := by decide +kernel
theorem dX10_begin_48 : decode cX10_begin 48 = .ok (.aload_n 0, 1) := by decide +kernel
theorem dX10_begin_49 : decode cX10_begin 49 = .ok (.getfield 80, 3) := by decide +kernel
theorem dX10_begin_52 : decode cX10_begin 52 = .ok (.iload_n 1, 1) := by decide +kernel
theorem dX10_begin_53 : decode cX10_begin 53 = .ok (.iconst (-1), 1) := by decide +kernel
theorem dX10_begin_54 : decode cX10_begin 54 = .ok (.iastore, 1) := by decide +kernel
theorem dX10_begin_55 : decode cX10_begin 55 = .ok (.iinc 1 1, 3) := by decide +kernel
theorem dX10_begin_58 : decode cX10_begin 58 = .ok (.goto (-16), 3) := by decide +kernel
theorem dX10_begin_61 : decode cX10_begin 61 = .ok (.return_, 1) := by decide +kernel
def BX10_begin_42 (I42 : Int32 → XT → YT → Prop) (Q : XT → YT → Prop) (a1 : Int32) (X : XT) (Y : YT) : Prop :=
  ((10 ≤ a1 → Q X Y) ∧ (¬ 10 ≤ a1 → vp_in a1 10 ∧ ∀ w2 : Int32, w2 = a1 + 1 → I42 w2 (sX X 71 a1.toNatClampNeg (-1)) Y))
def BX10_begin_s (I42 : Int32 → XT → YT → Prop) (Q : XT → YT → Prop) (X : XT) (Y : YT) : Prop :=
  ∀ X1 : XT, X1 = sX X 48 37 ((1 <<< ((X 48 13) &&& 31)) - 1) → ∀ X3 : XT, X3 = sX (sX (sX X1 48 38 0) 48 39 0) 48 41 ((sX (sX X1 48 38 0) 48 39 0) 48 9) → I42 0 (sX (sX X3 48 53 (-1)) 48 54 (-1)) Y
def PX10_begin (X : XT) (Y : YT) (Q : XT → YT → Prop) : Prop := ∀ (I42 : Int32 → XT → YT → Prop), (∀ (a1 : Int32) (X : XT) (Y : YT), BX10_begin_42 I42 Q a1 X Y → I42 a1 X Y) → BX10_begin_s I42 Q X Y
set_option maxHeartbeats 4000000 in
set_option maxRecDepth 100000 in
theorem kX10_begin_42 {Γ : Cxt} {Q : XT → YT → Prop} (O : Ok Γ RX10 cX10_begin 2 { frames := 0, cells := 0, slots := 0, locals := 0 }) (r : Ret Γ none (qV Q)) {I42 : Int32 → XT → YT → Prop} (e42 : ∀ (a1 : Int32) (X : XT) (Y : YT), I42 a1 X Y → V Γ 42 [(0, .ref 48), (1, .int a1)] [] X Y) {a1 : Int32} {X : XT} {Y : YT} (h : BX10_begin_42 I42 Q a1 X Y) : V Γ 42 [(0, .ref 48), (1, .int a1)] [] X Y := by
  refine v_iload_n O dX10_begin_42 rfl 1 rfl ?_
  refine v_bipush O dX10_begin_43 kb_10 ?_
  refine v_icmp_ge (tgt := 61) O dX10_begin_45 (by decide) (fun g1 => ?_) (fun g1 => ?_)
  · exact v_vret O r dX10_begin_61 ⟨rfl, (h.1 g1)⟩
  · refine v_aload_n O dX10_begin_48 rfl 0 rfl ?_
    refine v_get O dX10_begin_49 fo_X10_80 sh_48 rfl rfl ?_
    refine v_iload_n O dX10_begin_52 rfl 1 rfl ?_
    refine v_iconst O dX10_begin_53 kc_m1 ?_
    refine v_iast O dX10_begin_54 sh_71 (h.2 g1).1 ?_
    obtain ⟨w2, hw3⟩ : ∃ y : Int32, y = a1 + 1 := ⟨_, rfl⟩
    refine v_iinc (v := w2) (j := 1) O dX10_begin_55 rfl (by rw [hw3]; exact congrArg _ kc_1) (by decide) (lv' := [(1, .int w2), (0, .ref 48)]) rfl ?_
    refine v_goto O dX10_begin_58 (tgt := 42) (by decide) ?_
    exact v_loc [1, 0] rfl (e42 w2 (sX X 71 a1.toNatClampNeg (-1)) Y ((h.2 g1).2 w2 hw3))
set_option maxHeartbeats 4000000 in
set_option maxRecDepth 100000 in
theorem kX10_begin_s {Γ : Cxt} {Q : XT → YT → Prop} (O : Ok Γ RX10 cX10_begin 2 { frames := 0, cells := 0, slots := 0, locals := 0 }) (r : Ret Γ none (qV Q)) {I42 : Int32 → XT → YT → Prop} (e42 : ∀ (a1 : Int32) (X : XT) (Y : YT), I42 a1 X Y → V Γ 42 [(0, .ref 48), (1, .int a1)] [] X Y) {X : XT} {Y : YT} (h : BX10_begin_s I42 Q X Y) : V Γ 0 [(0, .ref 48)] [] X Y := by
  refine v_aload_n O dX10_begin_0 rfl 0 rfl ?_
  refine v_iconst O dX10_begin_1 kc_1 ?_
  refine v_aload_n O dX10_begin_2 rfl 0 rfl ?_
  refine v_get O dX10_begin_3 fo_X10_156 sh_48 rfl rfl ?_
  refine v_ishl O dX10_begin_6 ?_
  refine v_iconst O dX10_begin_7 kc_1 ?_
  refine v_isub O dX10_begin_8 ?_
  refine v_putI O dX10_begin_9 fo_X10_240 fp_10_37 sh_48 rfl rfl rfl ?_
  refine v_nmX (fun X1 hX2 => ?_)
  refine v_aload_n O dX10_begin_12 rfl 0 rfl ?_
  refine v_iconst O dX10_begin_13 kc_0 ?_
  refine v_putI O dX10_begin_14 fo_X10_237 fp_10_38 sh_48 rfl rfl rfl ?_
  refine v_aload_n O dX10_begin_17 rfl 0 rfl ?_
  refine v_iconst O dX10_begin_18 kc_0 ?_
  refine v_putI O dX10_begin_19 fo_X10_243 fp_10_39 sh_48 rfl rfl rfl ?_
  refine v_aload_n O dX10_begin_22 rfl 0 rfl ?_
  refine v_aload_n O dX10_begin_23 rfl 0 rfl ?_
  refine v_get O dX10_begin_24 fo_X10_146 sh_48 rfl rfl ?_
  refine v_putI O dX10_begin_27 fo_X10_246 fp_10_41 sh_48 rfl rfl rfl ?_
  refine v_nmX (fun X3 hX4 => ?_)
  refine v_aload_n O dX10_begin_30 rfl 0 rfl ?_
  refine v_iconst O dX10_begin_31 kc_m1 ?_
  refine v_putI O dX10_begin_32 fo_X10_249 fp_10_53 sh_48 rfl rfl rfl ?_
  refine v_aload_n O dX10_begin_35 rfl 0 rfl ?_
  refine v_iconst O dX10_begin_36 kc_m1 ?_
  refine v_putI O dX10_begin_37 fo_X10_252 fp_10_54 sh_48 rfl rfl rfl ?_
  refine v_iconst O dX10_begin_40 kc_0 ?_
  refine v_istore_n (lv' := [(1, .int 0), (0, .ref 48)]) O dX10_begin_41 rfl (by decide) rfl ?_
  exact v_loc [1, 0] rfl (e42 0 (sX (sX X3 48 53 (-1)) 48 54 (-1)) Y ((h X1 hX2) X3 hX4))
set_option maxRecDepth 100000 in
theorem mX10_begin {Γ : Cxt} {X : XT} {Y : YT} {Q : XT → YT → Prop} (h : PX10_begin X Y Q) : MT Γ yX10_begin (.code yX10_begin cX10_begin 2 none :: wl) { frames := 0, cells := 0, slots := 0, locals := 0 } [.ref 48] X Y (qV Q) :=
  mt_of (by decide) (Nat.le_of_ble_eq_true rfl) (fun Γ _ O r => kX10_begin_s O r (fun _ _ _ g => g) (h (fun a1 X Y => V Γ 42 [(0, .ref 48), (1, .int a1)] [] X Y) (fun _ _ _ g => kX10_begin_42 O r (fun _ _ _ g => g) g)))
theorem dX10_findShown_0 : decode cX10_findShown 0 = .ok (.iconst 0, 1) := by decide +kernel
theorem dX10_findShown_1 : decode cX10_findShown 1 = .ok (.istore_n 1, 1) := by decide +kernel
theorem dX10_findShown_2 : decode cX10_findShown 2 = .ok (.iload_n 1, 1) := by decide +kernel
theorem dX10_findShown_3 : decode cX10_findShown 3 = .ok (.bipush 8, 2) := by decide +kernel
theorem dX10_findShown_5 : decode cX10_findShown 5 = .ok (.if_icmp .ge 16, 3) := by decide +kernel
theorem dX10_findShown_8 : decode cX10_findShown 8 = .ok (.aload_n 0, 1) := by decide +kernel
theorem dX10_findShown_9 : decode cX10_findShown 9 = .ok (.getfield 99, 3) := by decide +kernel
theorem dX10_findShown_12 : decode cX10_findShown 12 = .ok (.iload_n 1, 1) := by decide +kernel
theorem dX10_findShown_13 : decode cX10_findShown 13 = .ok (.iconst 0, 1) := by decide +kernel
theorem dX10_findShown_14 : decode cX10_findShown 14 = .ok (.iastore, 1) := by decide +kernel
theorem dX10_findShown_15 : decode cX10_findShown 15 = .ok (.iinc 1 1, 3) := by decide +kernel
theorem dX10_findShown_18 : decode cX10_findShown 18 = .ok (.goto (-16), 3) := by decide +kernel
theorem dX10_findShown_21 : decode cX10_findShown 21 = .ok (.iconst 0, 1) := by decide +kernel
theorem dX10_findShown_22 : decode cX10_findShown 22 = .ok (.istore_n 1, 1) := by decide +kernel
theorem dX10_findShown_23 : decode cX10_findShown 23 = .ok (.iload_n 1, 1) := by decide +kernel
theorem dX10_findShown_24 : decode cX10_findShown 24 = .ok (.aload_n 0, 1) := by decide +kernel
theorem dX10_findShown_25 : decode cX10_findShown 25 = .ok (.getfield 159, 3) := by decide +kernel
theorem dX10_findShown_28 : decode cX10_findShown 28 = .ok (.if_icmp .ge 52, 3) := by decide +kernel
theorem dX10_findShown_31 : decode cX10_findShown 31 = .ok (.aload_n 0, 1) := by decide +kernel
theorem dX10_findShown_32 : decode cX10_findShown 32 = .ok (.getfield 99, 3) := by decide +kernel
theorem dX10_findShown_35 : decode cX10_findShown 35 = .ok (.aload_n 0, 1) := by decide +kernel
theorem dX10_findShown_36 : decode cX10_findShown 36 = .ok (.getfield 43, 3) := by decide +kernel
theorem dX10_findShown_39 : decode cX10_findShown 39 = .ok (.iload_n 1, 1) := by decide +kernel
theorem dX10_findShown_40 : decode cX10_findShown 40 = .ok (.iaload, 1) := by decide +kernel
theorem dX10_findShown_41 : decode cX10_findShown 41 = .ok (.dup2, 1) := by decide +kernel
theorem dX10_findShown_42 : decode cX10_findShown 42 = .ok (.iaload, 1) := by decide +kernel
theorem dX10_findShown_43 : decode cX10_findShown 43 = .ok (.aload_n 0, 1) := by decide +kernel
theorem dX10_findShown_44 : decode cX10_findShown 44 = .ok (.getfield 49, 3) := by decide +kernel
theorem dX10_findShown_47 : decode cX10_findShown 47 = .ok (.iload_n 1, 1) := by decide +kernel
theorem dX10_findShown_48 : decode cX10_findShown 48 = .ok (.iaload, 1) := by decide +kernel
theorem dX10_findShown_49 : decode cX10_findShown 49 = .ok (.ifCond .lt 22, 3) := by decide +kernel
theorem dX10_findShown_52 : decode cX10_findShown 52 = .ok (.aload_n 0, 1) := by decide +kernel
theorem dX10_findShown_53 : decode cX10_findShown 53 = .ok (.iload_n 1, 1) := by decide +kernel
theorem dX10_findShown_54 : decode cX10_findShown 54 = .ok (.invokevirtual 255, 3) := by decide +kernel
theorem dX10_findShown_57 : decode cX10_findShown 57 = .ok (.ifCond .ne 14, 3) := by decide +kernel
theorem dX10_findShown_60 : decode cX10_findShown 60 = .ok (.iconst 1, 1) := by decide +kernel
theorem dX10_findShown_61 : decode cX10_findShown 61 = .ok (.aload_n 0, 1) := by decide +kernel
theorem dX10_findShown_62 : decode cX10_findShown 62 = .ok (.getfield 49, 3) := by decide +kernel
theorem dX10_findShown_65 : decode cX10_findShown 65 = .ok (.iload_n 1, 1) := by decide +kernel
theorem dX10_findShown_66 : decode cX10_findShown 66 = .ok (.iaload, 1) := by decide +kernel
theorem dX10_findShown_67 : decode cX10_findShown 67 = .ok (.ishl, 1) := by decide +kernel
theorem dX10_findShown_68 : decode cX10_findShown 68 = .ok (.goto 4, 3) := by decide +kernel
theorem dX10_findShown_71 : decode cX10_findShown 71 = .ok (.iconst 0, 1) := by decide +kernel
theorem dX10_findShown_72 : decode cX10_findShown 72 = .ok (.ior, 1) := by decide +kernel
theorem dX10_findShown_73 : decode cX10_findShown 73 = .ok (.iastore, 1) := by decide +kernel
theorem dX10_findShown_74 : decode cX10_findShown 74 = .ok (.iinc 1 1, 3) := by decide +kernel
theorem dX10_findShown_77 : decode cX10_findShown 77 = .ok (.goto (-54), 3) := by decide +kernel
theorem dX10_findShown_80 : decode cX10_findShown 80 = .ok (.return_, 1) := by decide +kernel
def BX10_findShown_2 (I2 : Int32 → XT → YT → Prop) (I23 : Int32 → XT → YT → Prop) (Q : XT → YT → Prop) (a1 : Int32) (X : XT) (Y : YT) : Prop :=
  ((8 ≤ a1 → I23 0 X Y) ∧ (¬ 8 ≤ a1 → vp_in a1 8 ∧ ∀ w2 : Int32, w2 = a1 + 1 → I2 w2 (sX X 77 a1.toNatClampNeg 0) Y))
def BX10_findShown_23 (I2 : Int32 → XT → YT → Prop) (I23 : Int32 → XT → YT → Prop) (Q : XT → YT → Prop) (a1 : Int32) (X : XT) (Y : YT) : Prop :=
  (((X 48 16) ≤ a1 → Q X Y) ∧ (¬ (X 48 16) ≤ a1 → vp_in a1 32 ∧ vp_in (X 60 a1.toNatClampNeg) 8 ∧ vp_in a1 32 ∧ (((X 62 a1.toNatClampNeg) < 0 → vp_in (X 60 a1.toNatClampNeg) 8 ∧ ∀ X3 : XT, X3 = sX X 77 (X 60 a1.toNatClampNeg).toNatClampNeg ((X 77 (X 60 a1.toNatClampNeg).toNatClampNeg) ||| 0) → ∀ w5 : Int32, w5 = a1 + 1 → I23 w5 X3 Y) ∧ (¬ (X 62 a1.toNatClampNeg) < 0 → PX10_isBarred a1 X Y (fun r7 X8 Y9 => ((¬ r7 = 0 → vp_in (X 60 a1.toNatClampNeg) 8 ∧ ∀ X12 : XT, X12 = sX X8 77 (X 60 a1.toNatClampNeg).toNatClampNeg ((X 77 (X 60 a1.toNatClampNeg).toNatClampNeg) ||| 0) → ∀ w14 : Int32, w14 = a1 + 1 → I23 w14 X12 Y9) ∧ (r7 = 0 → vp_in a1 32 ∧ vp_in (X 60 a1.toNatClampNeg) 8 ∧ ∀ X16 : XT, X16 = sX X8 77 (X 60 a1.toNatClampNeg).toNatClampNeg ((X 77 (X 60 a1.toNatClampNeg).toNatClampNeg) ||| (1 <<< ((X8 62 a1.toNatClampNeg) &&& 31))) → ∀ w18 : Int32, w18 = a1 + 1 → I23 w18 X16 Y9)))))))
def BX10_findShown_s (I2 : Int32 → XT → YT → Prop) (I23 : Int32 → XT → YT → Prop) (Q : XT → YT → Prop) (X : XT) (Y : YT) : Prop :=
  I2 0 X Y
def PX10_findShown (X : XT) (Y : YT) (Q : XT → YT → Prop) : Prop := ∀ (I2 : Int32 → XT → YT → Prop) (I23 : Int32 → XT → YT → Prop), (∀ (a1 : Int32) (X : XT) (Y : YT), BX10_findShown_2 I2 I23 Q a1 X Y → I2 a1 X Y) → (∀ (a1 : Int32) (X : XT) (Y : YT), BX10_findShown_23 I2 I23 Q a1 X Y → I23 a1 X Y) → BX10_findShown_s I2 I23 Q X Y
set_option maxHeartbeats 4000000 in
set_option maxRecDepth 100000 in
theorem kX10_findShown_2 {Γ : Cxt} {Q : XT → YT → Prop} (O : Ok Γ RX10 cX10_findShown 2 { frames := 1, cells := 0, slots := 0, locals := 23 }) (r : Ret Γ none (qV Q)) {I2 : Int32 → XT → YT → Prop} {I23 : Int32 → XT → YT → Prop} (e2 : ∀ (a1 : Int32) (X : XT) (Y : YT), I2 a1 X Y → V Γ 2 [(0, .ref 48), (1, .int a1)] [] X Y) (e23 : ∀ (a1 : Int32) (X : XT) (Y : YT), I23 a1 X Y → V Γ 23 [(0, .ref 48), (1, .int a1)] [] X Y) {a1 : Int32} {X : XT} {Y : YT} (h : BX10_findShown_2 I2 I23 Q a1 X Y) : V Γ 2 [(0, .ref 48), (1, .int a1)] [] X Y := by
  refine v_iload_n O dX10_findShown_2 rfl 1 rfl ?_
  refine v_bipush O dX10_findShown_3 kb_8 ?_
  refine v_icmp_ge (tgt := 21) O dX10_findShown_5 (by decide) (fun g1 => ?_) (fun g1 => ?_)
  · refine v_iconst O dX10_findShown_21 kc_0 ?_
    refine v_istore_n (lv' := [(1, .int 0), (0, .ref 48)]) O dX10_findShown_22 rfl (by decide) rfl ?_
    exact v_loc [1, 0] rfl (e23 0 X Y (h.1 g1))
  · refine v_aload_n O dX10_findShown_8 rfl 0 rfl ?_
    refine v_get O dX10_findShown_9 fo_X10_99 sh_48 rfl rfl ?_
    refine v_iload_n O dX10_findShown_12 rfl 1 rfl ?_
    refine v_iconst O dX10_findShown_13 kc_0 ?_
    refine v_iast O dX10_findShown_14 sh_77 (h.2 g1).1 ?_
    obtain ⟨w2, hw3⟩ : ∃ y : Int32, y = a1 + 1 := ⟨_, rfl⟩
    refine v_iinc (v := w2) (j := 1) O dX10_findShown_15 rfl (by rw [hw3]; exact congrArg _ kc_1) (by decide) (lv' := [(1, .int w2), (0, .ref 48)]) rfl ?_
    refine v_goto O dX10_findShown_18 (tgt := 2) (by decide) ?_
    exact v_loc [1, 0] rfl (e2 w2 (sX X 77 a1.toNatClampNeg 0) Y ((h.2 g1).2 w2 hw3))
set_option maxHeartbeats 4000000 in
set_option maxRecDepth 100000 in
theorem kX10_findShown_23 {Γ : Cxt} {Q : XT → YT → Prop} (O : Ok Γ RX10 cX10_findShown 2 { frames := 1, cells := 0, slots := 0, locals := 23 }) (r : Ret Γ none (qV Q)) {I2 : Int32 → XT → YT → Prop} {I23 : Int32 → XT → YT → Prop} (e2 : ∀ (a1 : Int32) (X : XT) (Y : YT), I2 a1 X Y → V Γ 2 [(0, .ref 48), (1, .int a1)] [] X Y) (e23 : ∀ (a1 : Int32) (X : XT) (Y : YT), I23 a1 X Y → V Γ 23 [(0, .ref 48), (1, .int a1)] [] X Y) {a1 : Int32} {X : XT} {Y : YT} (h : BX10_findShown_23 I2 I23 Q a1 X Y) : V Γ 23 [(0, .ref 48), (1, .int a1)] [] X Y := by
  refine v_iload_n O dX10_findShown_23 rfl 1 rfl ?_
  refine v_aload_n O dX10_findShown_24 rfl 0 rfl ?_
  refine v_get O dX10_findShown_25 fo_X10_159 sh_48 rfl rfl ?_
  refine v_icmp_ge (tgt := 80) O dX10_findShown_28 (by decide) (fun g1 => ?_) (fun g1 => ?_)
  · exact v_vret O r dX10_findShown_80 ⟨rfl, (h.1 g1)⟩
  · refine v_aload_n O dX10_findShown_31 rfl 0 rfl ?_
    refine v_get O dX10_findShown_32 fo_X10_99 sh_48 rfl rfl ?_
    refine v_aload_n O dX10_findShown_35 rfl 0 rfl ?_
    refine v_get O dX10_findShown_36 fo_X10_43 sh_48 rfl rfl ?_
    refine v_iload_n O dX10_findShown_39 rfl 1 rfl ?_
    refine v_iald O dX10_findShown_40 sh_60 (h.2 g1).1 ?_
    refine v_dup2 O dX10_findShown_41 rfl rfl ?_
    refine v_iald O dX10_findShown_42 sh_77 (h.2 g1).2.1 ?_
    refine v_aload_n O dX10_findShown_43 rfl 0 rfl ?_
    refine v_get O dX10_findShown_44 fo_X10_49 sh_48 rfl rfl ?_
    refine v_iload_n O dX10_findShown_47 rfl 1 rfl ?_
    refine v_iald O dX10_findShown_48 sh_62 (h.2 g1).2.2.1 ?_
    refine v_if_lt (tgt := 71) O dX10_findShown_49 (by decide) (fun g2 => ?_) (fun g2 => ?_)
    · refine v_iconst O dX10_findShown_71 kc_0 ?_
      refine v_ior O dX10_findShown_72 ?_
      refine v_iast O dX10_findShown_73 sh_77 ((h.2 g1).2.2.2.1 g2).1 ?_
      refine v_nmX (fun X3 hX4 => ?_)
      obtain ⟨w5, hw6⟩ : ∃ y : Int32, y = a1 + 1 := ⟨_, rfl⟩
      refine v_iinc (v := w5) (j := 1) O dX10_findShown_74 rfl (by rw [hw6]; exact congrArg _ kc_1) (by decide) (lv' := [(1, .int w5), (0, .ref 48)]) rfl ?_
      refine v_goto O dX10_findShown_77 (tgt := 23) (by decide) ?_
      exact v_loc [1, 0] rfl (e23 w5 X3 Y ((((h.2 g1).2.2.2.1 g2).2 X3 hX4) w5 hw6))
    · refine v_aload_n O dX10_findShown_52 rfl 0 rfl ?_
      refine v_iload_n O dX10_findShown_53 rfl 1 rfl ?_
      refine v_callV (rm' := { frames := 0, cells := 0, slots := 0, locals := 0 }) (As := [.int a1]) (st := [.int (X 77 (X 60 a1.toNatClampNeg).toNatClampNeg), .int (X 60 a1.toNatClampNeg), .ref 77]) O dX10_findShown_54 ci_X10_isBarred ml_X10_255 mi_X10_isBarred sh_48 rfl ⟨rfl, rfl, (by decide), (by decide)⟩ rfl (Nat.le_of_ble_eq_true rfl) rfl (mX10_isBarred ((h.2 g1).2.2.2.2 g2)) (k_I (fun r7 X8 Y9 h10 => ?_))
      refine v_if_ne (tgt := 71) O dX10_findShown_57 (by decide) (fun g11 => ?_) (fun g11 => ?_)
      · refine v_iconst O dX10_findShown_71 kc_0 ?_
        refine v_ior O dX10_findShown_72 ?_
        refine v_iast O dX10_findShown_73 sh_77 (h10.1 g11).1 ?_
        refine v_nmX (fun X12 hX13 => ?_)
        obtain ⟨w14, hw15⟩ : ∃ y : Int32, y = a1 + 1 := ⟨_, rfl⟩
        refine v_iinc (v := w14) (j := 1) O dX10_findShown_74 rfl (by rw [hw15]; exact congrArg _ kc_1) (by decide) (lv' := [(1, .int w14), (0, .ref 48)]) rfl ?_
        refine v_goto O dX10_findShown_77 (tgt := 23) (by decide) ?_
        exact v_loc [1, 0] rfl (e23 w14 X12 Y9 (((h10.1 g11).2 X12 hX13) w14 hw15))
      · refine v_iconst O dX10_findShown_60 kc_1 ?_
        refine v_aload_n O dX10_findShown_61 rfl 0 rfl ?_
        refine v_get O dX10_findShown_62 fo_X10_49 sh_48 rfl rfl ?_
        refine v_iload_n O dX10_findShown_65 rfl 1 rfl ?_
        refine v_iald O dX10_findShown_66 sh_62 (h10.2 g11).1 ?_
        refine v_ishl O dX10_findShown_67 ?_
        refine v_goto O dX10_findShown_68 (tgt := 72) (by decide) ?_
        refine v_ior O dX10_findShown_72 ?_
        refine v_iast O dX10_findShown_73 sh_77 (h10.2 g11).2.1 ?_
        refine v_nmX (fun X16 hX17 => ?_)
        obtain ⟨w18, hw19⟩ : ∃ y : Int32, y = a1 + 1 := ⟨_, rfl⟩
        refine v_iinc (v := w18) (j := 1) O dX10_findShown_74 rfl (by rw [hw19]; exact congrArg _ kc_1) (by decide) (lv' := [(1, .int w18), (0, .ref 48)]) rfl ?_
        refine v_goto O dX10_findShown_77 (tgt := 23) (by decide) ?_
        exact v_loc [1, 0] rfl (e23 w18 X16 Y9 (((h10.2 g11).2.2 X16 hX17) w18 hw19))
set_option maxHeartbeats 4000000 in
set_option maxRecDepth 100000 in
theorem kX10_findShown_s {Γ : Cxt} {Q : XT → YT → Prop} (O : Ok Γ RX10 cX10_findShown 2 { frames := 1, cells := 0, slots := 0, locals := 23 }) (r : Ret Γ none (qV Q)) {I2 : Int32 → XT → YT → Prop} {I23 : Int32 → XT → YT → Prop} (e2 : ∀ (a1 : Int32) (X : XT) (Y : YT), I2 a1 X Y → V Γ 2 [(0, .ref 48), (1, .int a1)] [] X Y) (e23 : ∀ (a1 : Int32) (X : XT) (Y : YT), I23 a1 X Y → V Γ 23 [(0, .ref 48), (1, .int a1)] [] X Y) {X : XT} {Y : YT} (h : BX10_findShown_s I2 I23 Q X Y) : V Γ 0 [(0, .ref 48)] [] X Y := by
  refine v_iconst O dX10_findShown_0 kc_0 ?_
  refine v_istore_n (lv' := [(1, .int 0), (0, .ref 48)]) O dX10_findShown_1 rfl (by decide) rfl ?_
  exact v_loc [1, 0] rfl (e2 0 X Y h)
set_option maxRecDepth 100000 in
theorem mX10_findShown {Γ : Cxt} {X : XT} {Y : YT} {Q : XT → YT → Prop} (h : PX10_findShown X Y Q) : MT Γ yX10_findShown (.code yX10_findShown cX10_findShown 2 none :: wl) { frames := 1, cells := 0, slots := 0, locals := 23 } [.ref 48] X Y (qV Q) :=
  mt_of (by decide) (Nat.le_of_ble_eq_true rfl) (fun Γ _ O r => kX10_findShown_s O r (fun _ _ _ g => g) (fun _ _ _ g => g) (h (fun a1 X Y => V Γ 2 [(0, .ref 48), (1, .int a1)] [] X Y) (fun a1 X Y => V Γ 23 [(0, .ref 48), (1, .int a1)] [] X Y) (fun _ _ _ g => kX10_findShown_2 O r (fun _ _ _ g => g) (fun _ _ _ g => g) g) (fun _ _ _ g => kX10_findShown_23 O r (fun _ _ _ g => g) (fun _ _ _ g => g) g)))
theorem dX10_fitsAt_0 : decode cX10_fitsAt 0 = .ok (.aload_n 0, 1) := by decide +kernel
theorem dX10_fitsAt_1 : decode cX10_fitsAt 1 = .ok (.iload_n 1, 1) := by decide +kernel
theorem dX10_fitsAt_2 : decode cX10_fitsAt 2 = .ok (.aload_n 0, 1) := by decide +kernel
theorem dX10_fitsAt_3 : decode cX10_fitsAt 3 = .ok (.getfield 40, 3) := by decide +kernel
theorem dX10_fitsAt_6 : decode cX10_fitsAt 6 = .ok (.aload_n 0, 1) := by decide +kernel
theorem dX10_fitsAt_7 : decode cX10_fitsAt 7 = .ok (.getfield 43, 3) := by decide +kernel
theorem dX10_fitsAt_10 : decode cX10_fitsAt 10 = .ok (.iload_n 2, 1) := by decide +kernel
theorem dX10_fitsAt_11 : decode cX10_fitsAt 11 = .ok (.iaload, 1) := by decide +kernel
theorem dX10_fitsAt_12 : decode cX10_fitsAt 12 = .ok (.iaload, 1) := by decide +kernel
theorem dX10_fitsAt_13 : decode cX10_fitsAt 13 = .ok (.invokevirtual 149, 3) := by decide +kernel
theorem dX10_fitsAt_16 : decode cX10_fitsAt 16 = .ok (.aload_n 0, 1) := by decide +kernel
theorem dX10_fitsAt_17 : decode cX10_fitsAt 17 = .ok (.iload_n 2, 1) := by decide +kernel
theorem dX10_fitsAt_18 : decode cX10_fitsAt 18 = .ok (.invokevirtual 228, 3) := by decide +kernel
theorem dX10_fitsAt_21 : decode cX10_fitsAt 21 = .ok (.isub, 1) := by decide +kernel
theorem dX10_fitsAt_22 : decode cX10_fitsAt 22 = .ok (.istore_n 3, 1) := by decide +kernel
theorem dX10_fitsAt_23 : decode cX10_fitsAt 23 = .ok (.iload_n 3, 1) := by decide +kernel
theorem dX10_fitsAt_24 : decode cX10_fitsAt 24 = .ok (.i2l, 1) := by decide +kernel
theorem dX10_fitsAt_25 : decode cX10_fitsAt 25 = .ok (.iconst 0, 1) := by decide +kernel
theorem dX10_fitsAt_26 : decode cX10_fitsAt 26 = .ok (.aload_n 0, 1) := by decide +kernel
theorem dX10_fitsAt_27 : decode cX10_fitsAt 27 = .ok (.getfield 246, 3) := by decide +kernel
theorem dX10_fitsAt_30 : decode cX10_fitsAt 30 = .ok (.isub, 1) := by decide +kernel
theorem dX10_fitsAt_31 : decode cX10_fitsAt 31 = .ok (.i2l, 1) := by decide +kernel
theorem dX10_fitsAt_32 : decode cX10_fitsAt 32 = .ok (.aload_n 0, 1) := by decide +kernel
theorem dX10_fitsAt_33 : decode cX10_fitsAt 33 = .ok (.getfield 246, 3) := by decide +kernel
theorem dX10_fitsAt_36 : decode cX10_fitsAt 36 = .ok (.i2l, 1) := by decide +kernel
theorem dX10_fitsAt_37 : decode cX10_fitsAt 37 = .ok (.invokestatic 108, 3) := by decide +kernel
theorem dX10_fitsAt_40 : decode cX10_fitsAt 40 = .ok (.ifCond .eq 58, 3) := by decide +kernel
theorem dX10_fitsAt_43 : decode cX10_fitsAt 43 = .ok (.aload_n 0, 1) := by decide +kernel
theorem dX10_fitsAt_44 : decode cX10_fitsAt 44 = .ok (.getfield 19, 3) := by decide +kernel
theorem dX10_fitsAt_47 : decode cX10_fitsAt 47 = .ok (.iload_n 1, 1) := by decide +kernel
theorem dX10_fitsAt_48 : decode cX10_fitsAt 48 = .ok (.iaload, 1) := by decide +kernel
theorem dX10_fitsAt_49 : decode cX10_fitsAt 49 = .ok (.aload_n 0, 1) := by decide +kernel
theorem dX10_fitsAt_50 : decode cX10_fitsAt 50 = .ok (.getfield 46, 3) := by decide +kernel
theorem dX10_fitsAt_53 : decode cX10_fitsAt 53 = .ok (.iload_n 2, 1) := by decide +kernel
theorem dX10_fitsAt_54 : decode cX10_fitsAt 54 = .ok (.iaload, 1) := by decide +kernel
theorem dX10_fitsAt_55 : decode cX10_fitsAt 55 = .ok (.ishr, 1) := by decide +kernel
theorem dX10_fitsAt_56 : decode cX10_fitsAt 56 = .ok (.iconst 1, 1) := by decide +kernel
theorem dX10_fitsAt_57 : decode cX10_fitsAt 57 = .ok (.iand, 1) := by decide +kernel
theorem dX10_fitsAt_58 : decode cX10_fitsAt 58 = .ok (.iconst 1, 1) := by decide +kernel
theorem dX10_fitsAt_59 : decode cX10_fitsAt 59 = .ok (.if_icmp .ne 39, 3) := by decide +kernel
theorem dX10_fitsAt_62 : decode cX10_fitsAt 62 = .ok (.aload_n 0, 1) := by decide +kernel
theorem dX10_fitsAt_63 : decode cX10_fitsAt 63 = .ok (.getfield 37, 3) := by decide +kernel
theorem dX10_fitsAt_66 : decode cX10_fitsAt 66 = .ok (.aload_n 0, 1) := by decide +kernel
theorem dX10_fitsAt_67 : decode cX10_fitsAt 67 = .ok (.getfield 43, 3) := by decide +kernel
theorem dX10_fitsAt_70 : decode cX10_fitsAt 70 = .ok (.iload_n 2, 1) := by decide +kernel
theorem dX10_fitsAt_71 : decode cX10_fitsAt 71 = .ok (.iaload, 1) := by decide +kernel
theorem dX10_fitsAt_72 : decode cX10_fitsAt 72 = .ok (.iaload, 1) := by decide +kernel
theorem dX10_fitsAt_73 : decode cX10_fitsAt 73 = .ok (.i2l, 1) := by decide +kernel
theorem dX10_fitsAt_74 : decode cX10_fitsAt 74 = .ok (.aload_n 0, 1) := by decide +kernel
theorem dX10_fitsAt_75 : decode cX10_fitsAt 75 = .ok (.getfield 22, 3) := by decide +kernel
theorem dX10_fitsAt_78 : decode cX10_fitsAt 78 = .ok (.iload_n 1, 1) := by decide +kernel
theorem dX10_fitsAt_79 : decode cX10_fitsAt 79 = .ok (.iaload, 1) := by decide +kernel
theorem dX10_fitsAt_80 : decode cX10_fitsAt 80 = .ok (.i2l, 1) := by decide +kernel
theorem dX10_fitsAt_81 : decode cX10_fitsAt 81 = .ok (.aload_n 0, 1) := by decide +kernel
theorem dX10_fitsAt_82 : decode cX10_fitsAt 82 = .ok (.getfield 25, 3) := by decide +kernel
theorem dX10_fitsAt_85 : decode cX10_fitsAt 85 = .ok (.iload_n 1, 1) := by decide +kernel
theorem dX10_fitsAt_86 : decode cX10_fitsAt 86 = .ok (.iaload, 1) := by decide +kernel
theorem dX10_fitsAt_87 : decode cX10_fitsAt 87 = .ok (.i2l, 1) := by decide +kernel
theorem dX10_fitsAt_88 : decode cX10_fitsAt 88 = .ok (.invokestatic 108, 3) := by decide +kernel
theorem dX10_fitsAt_91 : decode cX10_fitsAt 91 = .ok (.ifCond .eq 7, 3) := by decide +kernel
theorem dX10_fitsAt_94 : decode cX10_fitsAt 94 = .ok (.iconst 1, 1) := by decide +kernel
theorem dX10_fitsAt_95 : decode cX10_fitsAt 95 = .ok (.goto 4, 3) := by decide +kernel
theorem dX10_fitsAt_98 : decode cX10_fitsAt 98 = .ok (.iconst 0, 1) := by decide +kernel
theorem dX10_fitsAt_99 : decode cX10_fitsAt 99 = .ok (.ireturn, 1) := by decide +kernel
def BX10_fitsAt_s (Q : Int32 → XT → YT → Prop) (p0 : Int32) (p1 : Int32) (X : XT) (Y : YT) : Prop :=
  vp_in p1 32 ∧ vp_in (X 60 p1.toNatClampNeg) 8 ∧ PX10_widthOf p0 (X 59 (X 60 p1.toNatClampNeg).toNatClampNeg) X Y (fun r1 X2 Y3 => PX10_wideAt p1 X2 Y3 (fun r5 X6 Y7 => ∀ w9 : Int32, w9 = (r1 - r5) → PX10_in (w9.toInt64) ((0 - (X6 48 41)).toInt64) ((X6 48 41).toInt64) X6 Y7 (fun r11 X12 Y13 => ((r11 = 0 → Q 0 X12 Y13) ∧ (¬ r11 = 0 → vp_in p0 10 ∧ vp_in p1 32 ∧ ((¬ (((X12 52 p0.toNatClampNeg) >>> ((X12 61 p1.toNatClampNeg) &&& 31)) &&& 1) = 1 → Q 0 X12 Y13) ∧ ((((X12 52 p0.toNatClampNeg) >>> ((X12 61 p1.toNatClampNeg) &&& 31)) &&& 1) = 1 → vp_in p1 32 ∧ vp_in (X12 60 p1.toNatClampNeg) 8 ∧ vp_in p0 10 ∧ vp_in p0 10 ∧ PX10_in ((X12 58 (X12 60 p1.toNatClampNeg).toNatClampNeg).toInt64) ((X12 53 p0.toNatClampNeg).toInt64) ((X12 54 p0.toNatClampNeg).toInt64) X12 Y13 (fun r17 X18 Y19 => ((r17 = 0 → Q 0 X18 Y19) ∧ (¬ r17 = 0 → Q 1 X18 Y19))))))))))
def PX10_fitsAt (p0 : Int32) (p1 : Int32) (X : XT) (Y : YT) (Q : Int32 → XT → YT → Prop) : Prop :=  BX10_fitsAt_s Q p0 p1 X Y
set_option maxHeartbeats 4000000 in
set_option maxRecDepth 100000 in
theorem kX10_fitsAt_s {Γ : Cxt} {Q : Int32 → XT → YT → Prop} (O : Ok Γ RX10 cX10_fitsAt 4 { frames := 2, cells := 0, slots := 0, locals := 45 }) (r : Ret Γ (some .boolean) (qI Q)) {p0 : Int32} {p1 : Int32} {X : XT} {Y : YT} (h : BX10_fitsAt_s Q p0 p1 X Y) : V Γ 0 [(0, .ref 48), (1, .int p0), (2, .int p1)] [] X Y := by
  refine v_aload_n O dX10_fitsAt_0 rfl 0 rfl ?_
  refine v_iload_n O dX10_fitsAt_1 rfl 1 rfl ?_
  refine v_aload_n O dX10_fitsAt_2 rfl 0 rfl ?_
  refine v_get O dX10_fitsAt_3 fo_X10_40 sh_48 rfl rfl ?_
  refine v_aload_n O dX10_fitsAt_6 rfl 0 rfl ?_
  refine v_get O dX10_fitsAt_7 fo_X10_43 sh_48 rfl rfl ?_
  refine v_iload_n O dX10_fitsAt_10 rfl 2 rfl ?_
  refine v_iald O dX10_fitsAt_11 sh_60 h.1 ?_
  refine v_iald O dX10_fitsAt_12 sh_59 h.2.1 ?_
  refine v_callV (rm' := { frames := 0, cells := 0, slots := 0, locals := 0 }) (As := [.int p0, .int (X 59 (X 60 p1.toNatClampNeg).toNatClampNeg)]) (st := []) O dX10_fitsAt_13 ci_X10_widthOf ml_X10_149 mi_X10_widthOf sh_48 rfl ⟨rfl, rfl, (by decide), (by decide)⟩ rfl (Nat.le_of_ble_eq_true rfl) rfl (mX10_widthOf h.2.2) (k_I (fun r1 X2 Y3 h4 => ?_))
  refine v_aload_n O dX10_fitsAt_16 rfl 0 rfl ?_
  refine v_iload_n O dX10_fitsAt_17 rfl 2 rfl ?_
  refine v_callV (rm' := { frames := 1, cells := 0, slots := 0, locals := 24 }) (As := [.int p1]) (st := [.int r1]) O dX10_fitsAt_18 ci_X10_wideAt ml_X10_228 mi_X10_wideAt sh_48 rfl ⟨rfl, rfl, (by decide), (by decide)⟩ rfl (Nat.le_of_ble_eq_true rfl) rfl (mX10_wideAt h4) (k_I (fun r5 X6 Y7 h8 => ?_))
  refine v_isub O dX10_fitsAt_21 ?_
  refine v_topi (fun w9 hw10 => ?_)
  refine v_istore_n (lv' := [(3, .int w9), (0, .ref 48), (1, .int p0), (2, .int p1)]) O dX10_fitsAt_22 rfl (by decide) rfl ?_
  refine v_iload_n O dX10_fitsAt_23 rfl 0 rfl ?_
  refine v_i2l O dX10_fitsAt_24 ?_
  refine v_iconst O dX10_fitsAt_25 kc_0 ?_
  refine v_aload_n O dX10_fitsAt_26 rfl 1 rfl ?_
  refine v_get O dX10_fitsAt_27 fo_X10_246 sh_48 rfl rfl ?_
  refine v_isub O dX10_fitsAt_30 ?_
  refine v_i2l O dX10_fitsAt_31 ?_
  refine v_aload_n O dX10_fitsAt_32 rfl 1 rfl ?_
  refine v_get O dX10_fitsAt_33 fo_X10_246 sh_48 rfl rfl ?_
  refine v_i2l O dX10_fitsAt_36 ?_
  refine v_callS (rm' := { frames := 0, cells := 0, slots := 0, locals := 0 }) (As := [.long (w9.toInt64), .long ((0 - (X6 48 41)).toInt64), .long ((X6 48 41).toInt64)]) (st := []) O dX10_fitsAt_37 ci_X10_in ml_X10_108 ms_X10_in ⟨rfl, rfl, (by decide), (by decide)⟩ rfl (Nat.le_of_ble_eq_true rfl) rfl (mX10_in (h8 w9 hw10)) (k_I (fun r11 X12 Y13 h14 => ?_))
  refine v_if_eq (tgt := 98) O dX10_fitsAt_40 (by decide) (fun g15 => ?_) (fun g15 => ?_)
  · refine v_iconst O dX10_fitsAt_98 kc_0 ?_
    exact v_zret O r dX10_fitsAt_99 (by decide) ⟨_, rfl, (h14.1 g15)⟩
  · refine v_aload_n O dX10_fitsAt_43 rfl 1 rfl ?_
    refine v_get O dX10_fitsAt_44 fo_X10_19 sh_48 rfl rfl ?_
    refine v_iload_n O dX10_fitsAt_47 rfl 2 rfl ?_
    refine v_iald O dX10_fitsAt_48 sh_52 (h14.2 g15).1 ?_
    refine v_aload_n O dX10_fitsAt_49 rfl 1 rfl ?_
    refine v_get O dX10_fitsAt_50 fo_X10_46 sh_48 rfl rfl ?_
    refine v_iload_n O dX10_fitsAt_53 rfl 3 rfl ?_
    refine v_iald O dX10_fitsAt_54 sh_61 (h14.2 g15).2.1 ?_
    refine v_ishr O dX10_fitsAt_55 ?_
    refine v_iconst O dX10_fitsAt_56 kc_1 ?_
    refine v_iand O dX10_fitsAt_57 ?_
    refine v_iconst O dX10_fitsAt_58 kc_1 ?_
    refine v_icmp_ne (tgt := 98) O dX10_fitsAt_59 (by decide) (fun g16 => ?_) (fun g16 => ?_)
    · refine v_iconst O dX10_fitsAt_98 kc_0 ?_
      exact v_zret O r dX10_fitsAt_99 (by decide) ⟨_, rfl, ((h14.2 g15).2.2.1 g16)⟩
    · refine v_aload_n O dX10_fitsAt_62 rfl 1 rfl ?_
      refine v_get O dX10_fitsAt_63 fo_X10_37 sh_48 rfl rfl ?_
      refine v_aload_n O dX10_fitsAt_66 rfl 1 rfl ?_
      refine v_get O dX10_fitsAt_67 fo_X10_43 sh_48 rfl rfl ?_
      refine v_iload_n O dX10_fitsAt_70 rfl 3 rfl ?_
      refine v_iald O dX10_fitsAt_71 sh_60 ((h14.2 g15).2.2.2 g16).1 ?_
      refine v_iald O dX10_fitsAt_72 sh_58 ((h14.2 g15).2.2.2 g16).2.1 ?_
      refine v_i2l O dX10_fitsAt_73 ?_
      refine v_aload_n O dX10_fitsAt_74 rfl 1 rfl ?_
      refine v_get O dX10_fitsAt_75 fo_X10_22 sh_48 rfl rfl ?_
      refine v_iload_n O dX10_fitsAt_78 rfl 2 rfl ?_
      refine v_iald O dX10_fitsAt_79 sh_53 ((h14.2 g15).2.2.2 g16).2.2.1 ?_
      refine v_i2l O dX10_fitsAt_80 ?_
      refine v_aload_n O dX10_fitsAt_81 rfl 1 rfl ?_
      refine v_get O dX10_fitsAt_82 fo_X10_25 sh_48 rfl rfl ?_
      refine v_iload_n O dX10_fitsAt_85 rfl 2 rfl ?_
      refine v_iald O dX10_fitsAt_86 sh_54 ((h14.2 g15).2.2.2 g16).2.2.2.1 ?_
      refine v_i2l O dX10_fitsAt_87 ?_
      refine v_callS (rm' := { frames := 0, cells := 0, slots := 0, locals := 0 }) (As := [.long ((X12 58 (X12 60 p1.toNatClampNeg).toNatClampNeg).toInt64), .long ((X12 53 p0.toNatClampNeg).toInt64), .long ((X12 54 p0.toNatClampNeg).toInt64)]) (st := []) O dX10_fitsAt_88 ci_X10_in ml_X10_108 ms_X10_in ⟨rfl, rfl, (by decide), (by decide)⟩ rfl (Nat.le_of_ble_eq_true rfl) rfl (mX10_in ((h14.2 g15).2.2.2 g16).2.2.2.2) (k_I (fun r17 X18 Y19 h20 => ?_))
      refine v_if_eq (tgt := 98) O dX10_fitsAt_91 (by decide) (fun g21 => ?_) (fun g21 => ?_)
      · refine v_iconst O dX10_fitsAt_98 kc_0 ?_
        exact v_zret O r dX10_fitsAt_99 (by decide) ⟨_, rfl, (h20.1 g21)⟩
      · refine v_iconst O dX10_fitsAt_94 kc_1 ?_
        refine v_goto O dX10_fitsAt_95 (tgt := 99) (by decide) ?_
        exact v_zret O r dX10_fitsAt_99 (by decide) ⟨_, rfl, (h20.2 g21)⟩
set_option maxRecDepth 100000 in
theorem mX10_fitsAt {Γ : Cxt} {p0 : Int32} {p1 : Int32} {X : XT} {Y : YT} {Q : Int32 → XT → YT → Prop} (h : PX10_fitsAt p0 p1 X Y Q) : MT Γ yX10_fitsAt (.code yX10_fitsAt cX10_fitsAt 4 (some .boolean) :: wl) { frames := 2, cells := 0, slots := 0, locals := 45 } [.ref 48, .int p0, .int p1] X Y (qI Q) :=
  mt_of (by decide) (Nat.le_of_ble_eq_true rfl) (fun Γ _ O r => kX10_fitsAt_s O r  (h ))
theorem dX10_twinsAgree_0 : decode cX10_twinsAgree 0 = .ok (.aload_n 0, 1) := by decide +kernel
theorem dX10_twinsAgree_1 : decode cX10_twinsAgree 1 = .ok (.getfield 52, 3) := by decide +kernel
theorem dX10_twinsAgree_4 : decode cX10_twinsAgree 4 = .ok (.aload_n 0, 1) := by decide +kernel
theorem dX10_twinsAgree_5 : decode cX10_twinsAgree 5 = .ok (.getfield 83, 3) := by decide +kernel
theorem dX10_twinsAgree_8 : decode cX10_twinsAgree 8 = .ok (.iload_n 1, 1) := by decide +kernel
theorem dX10_twinsAgree_9 : decode cX10_twinsAgree 9 = .ok (.iaload, 1) := by decide +kernel
theorem dX10_twinsAgree_10 : decode cX10_twinsAgree 10 = .ok (.iaload, 1) := by decide +kernel
theorem dX10_twinsAgree_11 : decode cX10_twinsAgree 11 = .ok (.istore_n 3, 1) := by decide +kernel
theorem dX10_twinsAgree_12 : decode cX10_twinsAgree 12 = .ok (.iconst 1, 1) := by decide +kernel
theorem dX10_twinsAgree_13 : decode cX10_twinsAgree 13 = .ok (.istore 4, 2) := by decide +kernel
theorem dX10_twinsAgree_15 : decode cX10_twinsAgree 15 = .ok (.iconst 0, 1) := by decide +kernel
theorem dX10_twinsAgree_16 : decode cX10_twinsAgree 16 = .ok (.istore 5, 2) := by decide +kernel
theorem dX10_twinsAgree_18 : decode cX10_twinsAgree 18 = .ok (.iload 5, 2) := by decide +kernel
theorem dX10_twinsAgree_20 : decode cX10_twinsAgree 20 = .ok (.iload_n 1, 1) := by decide +kernel
theorem dX10_twinsAgree_21 : decode cX10_twinsAgree 21 = .ok (.if_icmp .ge 136, 3) := by decide +kernel
theorem dX10_twinsAgree_24 : decode cX10_twinsAgree 24 = .ok (.iload 4, 2) := by decide +kernel
theorem dX10_twinsAgree_26 : decode cX10_twinsAgree 26 = .ok (.ifCond .eq 131, 3) := by decide +kernel
theorem dX10_twinsAgree_29 : decode cX10_twinsAgree 29 = .ok (.iload_n 3, 1) := by decide +kernel
theorem dX10_twinsAgree_30 : decode cX10_twinsAgree 30 = .ok (.ifCond .lt 127, 3) := by decide +kernel
theorem dX10_twinsAgree_33 : decode cX10_twinsAgree 33 = .ok (.aload_n 0, 1) := by decide +kernel
theorem dX10_twinsAgree_34 : decode cX10_twinsAgree 34 = .ok (.getfield 52, 3) := by decide +kernel
theorem dX10_twinsAgree_37 : decode cX10_twinsAgree 37 = .ok (.aload_n 0, 1) := by decide +kernel
theorem dX10_twinsAgree_38 : decode cX10_twinsAgree 38 = .ok (.getfield 83, 3) := by decide +kernel
theorem dX10_twinsAgree_41 : decode cX10_twinsAgree 41 = .ok (.iload 5, 2) := by decide +kernel
theorem dX10_twinsAgree_43 : decode cX10_twinsAgree 43 = .ok (.iaload, 1) := by decide +kernel
theorem dX10_twinsAgree_44 : decode cX10_twinsAgree 44 = .ok (.iaload, 1) := by decide +kernel
theorem dX10_twinsAgree_45 : decode cX10_twinsAgree 45 = .ok (.istore 6, 2) := by decide +kernel
theorem dX10_twinsAgree_47 : decode cX10_twinsAgree 47 = .ok (.iconst 0, 1) := by decide +kernel
theorem dX10_twinsAgree_48 : decode cX10_twinsAgree 48 = .ok (.istore 7, 2) := by decide +kernel
theorem dX10_twinsAgree_50 : decode cX10_twinsAgree 50 = .ok (.iload 7, 2) := by decide +kernel
theorem dX10_twinsAgree_52 : decode cX10_twinsAgree 52 = .ok (.aload_n 0, 1) := by decide +kernel
theorem dX10_twinsAgree_53 : decode cX10_twinsAgree 53 = .ok (.getfield 165, 3) := by decide +kernel
theorem dX10_twinsAgree_56 : decode cX10_twinsAgree 56 = .ok (.if_icmp .ge 95, 3) := by decide +kernel
theorem dX10_twinsAgree_59 : decode cX10_twinsAgree 59 = .ok (.iload 6, 2) := by decide +kernel
theorem dX10_twinsAgree_61 : decode cX10_twinsAgree 61 = .ok (.ifCond .lt 90, 3) := by decide +kernel
theorem dX10_twinsAgree_64 : decode cX10_twinsAgree 64 = .ok (.aload_n 0, 1) := by decide +kernel
theorem dX10_twinsAgree_65 : decode cX10_twinsAgree 65 = .ok (.getfield 61, 3) := by decide +kernel
theorem dX10_twinsAgree_68 : decode cX10_twinsAgree 68 = .ok (.iload 7, 2) := by decide +kernel
theorem dX10_twinsAgree_70 : decode cX10_twinsAgree 70 = .ok (.iaload, 1) := by decide +kernel
theorem dX10_twinsAgree_71 : decode cX10_twinsAgree 71 = .ok (.iload_n 3, 1) := by decide +kernel
theorem dX10_twinsAgree_72 : decode cX10_twinsAgree 72 = .ok (.if_icmp .ne 15, 3) := by decide +kernel
theorem dX10_twinsAgree_75 : decode cX10_twinsAgree 75 = .ok (.aload_n 0, 1) := by decide +kernel
theorem dX10_twinsAgree_76 : decode cX10_twinsAgree 76 = .ok (.getfield 64, 3) := by decide +kernel
theorem dX10_twinsAgree_79 : decode cX10_twinsAgree 79 = .ok (.iload 7, 2) := by decide +kernel
theorem dX10_twinsAgree_81 : decode cX10_twinsAgree 81 = .ok (.iaload, 1) := by decide +kernel
theorem dX10_twinsAgree_82 : decode cX10_twinsAgree 82 = .ok (.iload 6, 2) := by decide +kernel
theorem dX10_twinsAgree_84 : decode cX10_twinsAgree 84 = .ok (.if_icmp .eq 26, 3) := by decide +kernel
theorem dX10_twinsAgree_87 : decode cX10_twinsAgree 87 = .ok (.aload_n 0, 1) := by decide +kernel
theorem dX10_twinsAgree_88 : decode cX10_twinsAgree 88 = .ok (.getfield 61, 3) := by decide +kernel
theorem dX10_twinsAgree_91 : decode cX10_twinsAgree 91 = .ok (.iload 7, 2) := by decide +kernel
theorem dX10_twinsAgree_93 : decode cX10_twinsAgree 93 = .ok (.iaload, 1) := by decide +kernel
theorem dX10_twinsAgree_94 : decode cX10_twinsAgree 94 = .ok (.iload 6, 2) := by decide +kernel
theorem dX10_twinsAgree_96 : decode cX10_twinsAgree 96 = .ok (.if_icmp .ne 18, 3) := by decide +kernel
theorem dX10_twinsAgree_99 : decode cX10_twinsAgree 99 = .ok (.aload_n 0, 1) := by decide +kernel
theorem dX10_twinsAgree_100 : decode cX10_twinsAgree 100 = .ok (.getfield 64, 3) := by decide +kernel
theorem dX10_twinsAgree_103 : decode cX10_twinsAgree 103 = .ok (.iload 7, 2) := by decide +kernel
theorem dX10_twinsAgree_105 : decode cX10_twinsAgree 105 = .ok (.iaload, 1) := by decide +kernel
theorem dX10_twinsAgree_106 : decode cX10_twinsAgree 106 = .ok (.iload_n 3, 1) := by decide +kernel
theorem dX10_twinsAgree_107 : decode cX10_twinsAgree 107 = .ok (.if_icmp .ne 7, 3) := by decide +kernel
theorem dX10_twinsAgree_110 : decode cX10_twinsAgree 110 = .ok (.iconst 1, 1) := by decide +kernel
theorem dX10_twinsAgree_111 : decode cX10_twinsAgree 111 = .ok (.goto 4, 3) := by decide +kernel
theorem dX10_twinsAgree_114 : decode cX10_twinsAgree 114 = .ok (.iconst 0, 1) := by decide +kernel
theorem dX10_twinsAgree_115 : decode cX10_twinsAgree 115 = .ok (.istore 8, 2) := by decide +kernel
theorem dX10_twinsAgree_117 : decode cX10_twinsAgree 117 = .ok (.iload 4, 2) := by decide +kernel
theorem dX10_twinsAgree_119 : decode cX10_twinsAgree 119 = .ok (.ifCond .eq 23, 3) := by decide +kernel
theorem dX10_twinsAgree_122 : decode cX10_twinsAgree 122 = .ok (.iload 8, 2) := by decide +kernel
theorem dX10_twinsAgree_124 : decode cX10_twinsAgree 124 = .ok (.ifCond .eq 14, 3) := by decide +kernel
theorem dX10_twinsAgree_127 : decode cX10_twinsAgree 127 = .ok (.aload_n 0, 1) := by decide +kernel
theorem dX10_twinsAgree_128 : decode cX10_twinsAgree 128 = .ok (.getfield 86, 3) := by decide +kernel
theorem dX10_twinsAgree_131 : decode cX10_twinsAgree 131 = .ok (.iload 5, 2) := by decide +kernel
theorem dX10_twinsAgree_133 : decode cX10_twinsAgree 133 = .ok (.iaload, 1) := by decide +kernel
theorem dX10_twinsAgree_134 : decode cX10_twinsAgree 134 = .ok (.iload_n 2, 1) := by decide +kernel
theorem dX10_twinsAgree_135 : decode cX10_twinsAgree 135 = .ok (.if_icmp .ne 7, 3) := by decide +kernel
theorem dX10_twinsAgree_138 : decode cX10_twinsAgree 138 = .ok (.iconst 1, 1) := by decide +kernel
theorem dX10_twinsAgree_139 : decode cX10_twinsAgree 139 = .ok (.goto 4, 3) := by decide +kernel
theorem dX10_twinsAgree_142 : decode cX10_twinsAgree 142 = .ok (.iconst 0, 1) := by decide +kernel
theorem dX10_twinsAgree_143 : decode cX10_twinsAgree 143 = .ok (.istore 4, 2) := by decide +kernel
theorem dX10_twinsAgree_145 : decode cX10_twinsAgree 145 = .ok (.iinc 7 1, 3) := by decide +kernel
theorem dX10_twinsAgree_148 : decode cX10_twinsAgree 148 = .ok (.goto (-98), 3) := by decide +kernel
theorem dX10_twinsAgree_151 : decode cX10_twinsAgree 151 = .ok (.iinc 5 1, 3) := by decide +kernel
theorem dX10_twinsAgree_154 : decode cX10_twinsAgree 154 = .ok (.goto (-136), 3) := by decide +kernel
theorem dX10_twinsAgree_157 : decode cX10_twinsAgree 157 = .ok (.iload 4, 2) := by decide +kernel
theorem dX10_twinsAgree_159 : decode cX10_twinsAgree 159 = .ok (.ireturn, 1) := by decide +kernel
def BX10_twinsAgree_18 (I18 : Int32 → Int32 → Int32 → Int32 → Int32 → XT → YT → Prop) (I50 : Int32 → Int32 → Int32 → Int32 → Int32 → Int32 → Int32 → XT → YT → Prop) (I87 : Int32 → Int32 → Int32 → Int32 → Int32 → Int32 → Int32 → XT → YT → Prop) (I110 : Int32 → Int32 → Int32 → Int32 → Int32 → Int32 → Int32 → XT → YT → Prop) (I114 : Int32 → Int32 → Int32 → Int32 → Int32 → Int32 → Int32 → XT → YT → Prop) (I115 : Int32 → Int32 → Int32 → Int32 → Int32 → Int32 → Int32 → Int32 → XT → YT → Prop) (Q : Int32 → XT → YT → Prop) (a1 : Int32) (a2 : Int32) (a3 : Int32) (a4 : Int32) (a5 : Int32) (X : XT) (Y : YT) : Prop :=
  ((a1 ≤ a5 → narrow .boolean (.int a4) = .int a4 ∧ Q a4 X Y) ∧ (¬ a1 ≤ a5 → ((a4 = 0 → narrow .boolean (.int a4) = .int a4 ∧ Q a4 X Y) ∧ (¬ a4 = 0 → ((a3 < 0 → narrow .boolean (.int a4) = .int a4 ∧ Q a4 X Y) ∧ (¬ a3 < 0 → vp_in a5 20 ∧ vp_in (X 72 a5.toNatClampNeg) 32 ∧ ∀ w4 : Int32, w4 = (X 63 (X 72 a5.toNatClampNeg).toNatClampNeg) → I50 a1 a2 a3 a4 a5 w4 0 X Y))))))
def BX10_twinsAgree_50 (I18 : Int32 → Int32 → Int32 → Int32 → Int32 → XT → YT → Prop) (I50 : Int32 → Int32 → Int32 → Int32 → Int32 → Int32 → Int32 → XT → YT → Prop) (I87 : Int32 → Int32 → Int32 → Int32 → Int32 → Int32 → Int32 → XT → YT → Prop) (I110 : Int32 → Int32 → Int32 → Int32 → Int32 → Int32 → Int32 → XT → YT → Prop) (I114 : Int32 → Int32 → Int32 → Int32 → Int32 → Int32 → Int32 → XT → YT → Prop) (I115 : Int32 → Int32 → Int32 → Int32 → Int32 → Int32 → Int32 → Int32 → XT → YT → Prop) (Q : Int32 → XT → YT → Prop) (a1 : Int32) (a2 : Int32) (a3 : Int32) (a4 : Int32) (a5 : Int32) (a6 : Int32) (a7 : Int32) (X : XT) (Y : YT) : Prop :=
  (((X 48 24) ≤ a7 → ∀ w2 : Int32, w2 = a5 + 1 → I18 a1 a2 a3 a4 w2 X Y) ∧ (¬ (X 48 24) ≤ a7 → ((a6 < 0 → ∀ w5 : Int32, w5 = a5 + 1 → I18 a1 a2 a3 a4 w5 X Y) ∧ (¬ a6 < 0 → vp_in a7 10 ∧ ((¬ (X 66 a7.toNatClampNeg) = a3 → I87 a1 a2 a3 a4 a5 a6 a7 X Y) ∧ ((X 66 a7.toNatClampNeg) = a3 → vp_in a7 10 ∧ (((X 67 a7.toNatClampNeg) = a6 → I110 a1 a2 a3 a4 a5 a6 a7 X Y) ∧ (¬ (X 67 a7.toNatClampNeg) = a6 → I87 a1 a2 a3 a4 a5 a6 a7 X Y))))))))
def BX10_twinsAgree_87 (I18 : Int32 → Int32 → Int32 → Int32 → Int32 → XT → YT → Prop) (I50 : Int32 → Int32 → Int32 → Int32 → Int32 → Int32 → Int32 → XT → YT → Prop) (I87 : Int32 → Int32 → Int32 → Int32 → Int32 → Int32 → Int32 → XT → YT → Prop) (I110 : Int32 → Int32 → Int32 → Int32 → Int32 → Int32 → Int32 → XT → YT → Prop) (I114 : Int32 → Int32 → Int32 → Int32 → Int32 → Int32 → Int32 → XT → YT → Prop) (I115 : Int32 → Int32 → Int32 → Int32 → Int32 → Int32 → Int32 → Int32 → XT → YT → Prop) (Q : Int32 → XT → YT → Prop) (a1 : Int32) (a2 : Int32) (a3 : Int32) (a4 : Int32) (a5 : Int32) (a6 : Int32) (a7 : Int32) (X : XT) (Y : YT) : Prop :=
  vp_in a7 10 ∧ ((¬ (X 66 a7.toNatClampNeg) = a6 → I114 a1 a2 a3 a4 a5 a6 a7 X Y) ∧ ((X 66 a7.toNatClampNeg) = a6 → vp_in a7 10 ∧ ((¬ (X 67 a7.toNatClampNeg) = a3 → I114 a1 a2 a3 a4 a5 a6 a7 X Y) ∧ ((X 67 a7.toNatClampNeg) = a3 → I110 a1 a2 a3 a4 a5 a6 a7 X Y))))
def BX10_twinsAgree_110 (I18 : Int32 → Int32 → Int32 → Int32 → Int32 → XT → YT → Prop) (I50 : Int32 → Int32 → Int32 → Int32 → Int32 → Int32 → Int32 → XT → YT → Prop) (I87 : Int32 → Int32 → Int32 → Int32 → Int32 → Int32 → Int32 → XT → YT → Prop) (I110 : Int32 → Int32 → Int32 → Int32 → Int32 → Int32 → Int32 → XT → YT → Prop) (I114 : Int32 → Int32 → Int32 → Int32 → Int32 → Int32 → Int32 → XT → YT → Prop) (I115 : Int32 → Int32 → Int32 → Int32 → Int32 → Int32 → Int32 → Int32 → XT → YT → Prop) (Q : Int32 → XT → YT → Prop) (a1 : Int32) (a2 : Int32) (a3 : Int32) (a4 : Int32) (a5 : Int32) (a6 : Int32) (a7 : Int32) (X : XT) (Y : YT) : Prop :=
  I115 a1 a2 a3 a4 a5 a6 a7 1 X Y
def BX10_twinsAgree_114 (I18 : Int32 → Int32 → Int32 → Int32 → Int32 → XT → YT → Prop) (I50 : Int32 → Int32 → Int32 → Int32 → Int32 → Int32 → Int32 → XT → YT → Prop) (I87 : Int32 → Int32 → Int32 → Int32 → Int32 → Int32 → Int32 → XT → YT → Prop) (I110 : Int32 → Int32 → Int32 → Int32 → Int32 → Int32 → Int32 → XT → YT → Prop) (I114 : Int32 → Int32 → Int32 → Int32 → Int32 → Int32 → Int32 → XT → YT → Prop) (I115 : Int32 → Int32 → Int32 → Int32 → Int32 → Int32 → Int32 → Int32 → XT → YT → Prop) (Q : Int32 → XT → YT → Prop) (a1 : Int32) (a2 : Int32) (a3 : Int32) (a4 : Int32) (a5 : Int32) (a6 : Int32) (a7 : Int32) (X : XT) (Y : YT) : Prop :=
  I115 a1 a2 a3 a4 a5 a6 a7 0 X Y
def BX10_twinsAgree_115 (I18 : Int32 → Int32 → Int32 → Int32 → Int32 → XT → YT → Prop) (I50 : Int32 → Int32 → Int32 → Int32 → Int32 → Int32 → Int32 → XT → YT → Prop) (I87 : Int32 → Int32 → Int32 → Int32 → Int32 → Int32 → Int32 → XT → YT → Prop) (I110 : Int32 → Int32 → Int32 → Int32 → Int32 → Int32 → Int32 → XT → YT → Prop) (I114 : Int32 → Int32 → Int32 → Int32 → Int32 → Int32 → Int32 → XT → YT → Prop) (I115 : Int32 → Int32 → Int32 → Int32 → Int32 → Int32 → Int32 → Int32 → XT → YT → Prop) (Q : Int32 → XT → YT → Prop) (a1 : Int32) (a2 : Int32) (a3 : Int32) (a4 : Int32) (a5 : Int32) (a6 : Int32) (a7 : Int32) (t0 : Int32) (X : XT) (Y : YT) : Prop :=
  ((a4 = 0 → ∀ w2 : Int32, w2 = a7 + 1 → I50 a1 a2 a3 0 a5 a6 w2 X Y) ∧ (¬ a4 = 0 → ((t0 = 0 → ∀ w5 : Int32, w5 = a7 + 1 → I50 a1 a2 a3 1 a5 a6 w5 X Y) ∧ (¬ t0 = 0 → vp_in a5 20 ∧ ((¬ (X 73 a5.toNatClampNeg) = a2 → ∀ w8 : Int32, w8 = a7 + 1 → I50 a1 a2 a3 0 a5 a6 w8 X Y) ∧ ((X 73 a5.toNatClampNeg) = a2 → ∀ w10 : Int32, w10 = a7 + 1 → I50 a1 a2 a3 1 a5 a6 w10 X Y))))))
def BX10_twinsAgree_s (I18 : Int32 → Int32 → Int32 → Int32 → Int32 → XT → YT → Prop) (I50 : Int32 → Int32 → Int32 → Int32 → Int32 → Int32 → Int32 → XT → YT → Prop) (I87 : Int32 → Int32 → Int32 → Int32 → Int32 → Int32 → Int32 → XT → YT → Prop) (I110 : Int32 → Int32 → Int32 → Int32 → Int32 → Int32 → Int32 → XT → YT → Prop) (I114 : Int32 → Int32 → Int32 → Int32 → Int32 → Int32 → Int32 → XT → YT → Prop) (I115 : Int32 → Int32 → Int32 → Int32 → Int32 → Int32 → Int32 → Int32 → XT → YT → Prop) (Q : Int32 → XT → YT → Prop) (p0 : Int32) (p1 : Int32) (X : XT) (Y : YT) : Prop :=
  vp_in p0 20 ∧ vp_in (X 72 p0.toNatClampNeg) 32 ∧ ∀ w1 : Int32, w1 = (X 63 (X 72 p0.toNatClampNeg).toNatClampNeg) → I18 p0 p1 w1 1 0 X Y
def PX10_twinsAgree (p0 : Int32) (p1 : Int32) (X : XT) (Y : YT) (Q : Int32 → XT → YT → Prop) : Prop := ∀ (I18 : Int32 → Int32 → Int32 → Int32 → Int32 → XT → YT → Prop) (I50 : Int32 → Int32 → Int32 → Int32 → Int32 → Int32 → Int32 → XT → YT → Prop) (I87 : Int32 → Int32 → Int32 → Int32 → Int32 → Int32 → Int32 → XT → YT → Prop) (I110 : Int32 → Int32 → Int32 → Int32 → Int32 → Int32 → Int32 → XT → YT → Prop) (I114 : Int32 → Int32 → Int32 → Int32 → Int32 → Int32 → Int32 → XT → YT → Prop) (I115 : Int32 → Int32 → Int32 → Int32 → Int32 → Int32 → Int32 → Int32 → XT → YT → Prop), (∀ (a1 : Int32) (a2 : Int32) (a3 : Int32) (a4 : Int32) (a5 : Int32) (X : XT) (Y : YT), BX10_twinsAgree_18 I18 I50 I87 I110 I114 I115 Q a1 a2 a3 a4 a5 X Y → I18 a1 a2 a3 a4 a5 X Y) → (∀ (a1 : Int32) (a2 : Int32) (a3 : Int32) (a4 : Int32) (a5 : Int32) (a6 : Int32) (a7 : Int32) (X : XT) (Y : YT), BX10_twinsAgree_50 I18 I50 I87 I110 I114 I115 Q a1 a2 a3 a4 a5 a6 a7 X Y → I50 a1 a2 a3 a4 a5 a6 a7 X Y) → (∀ (a1 : Int32) (a2 : Int32) (a3 : Int32) (a4 : Int32) (a5 : Int32) (a6 : Int32) (a7 : Int32) (X : XT) (Y : YT), BX10_twinsAgree_87 I18 I50 I87 I110 I114 I115 Q a1 a2 a3 a4 a5 a6 a7 X Y → I87 a1 a2 a3 a4 a5 a6 a7 X Y) → (∀ (a1 : Int32) (a2 : Int32) (a3 : Int32) (a4 : Int32) (a5 : Int32) (a6 : Int32) (a7 : Int32) (X : XT) (Y : YT), BX10_twinsAgree_110 I18 I50 I87 I110 I114 I115 Q a1 a2 a3 a4 a5 a6 a7 X Y → I110 a1 a2 a3 a4 a5 a6 a7 X Y) → (∀ (a1 : Int32) (a2 : Int32) (a3 : Int32) (a4 : Int32) (a5 : Int32) (a6 : Int32) (a7 : Int32) (X : XT) (Y : YT), BX10_twinsAgree_114 I18 I50 I87 I110 I114 I115 Q a1 a2 a3 a4 a5 a6 a7 X Y → I114 a1 a2 a3 a4 a5 a6 a7 X Y) → (∀ (a1 : Int32) (a2 : Int32) (a3 : Int32) (a4 : Int32) (a5 : Int32) (a6 : Int32) (a7 : Int32) (t0 : Int32) (X : XT) (Y : YT), BX10_twinsAgree_115 I18 I50 I87 I110 I114 I115 Q a1 a2 a3 a4 a5 a6 a7 t0 X Y → I115 a1 a2 a3 a4 a5 a6 a7 t0 X Y) → BX10_twinsAgree_s I18 I50 I87 I110 I114 I115 Q p0 p1 X Y
set_option maxHeartbeats 4000000 in
set_option maxRecDepth 100000 in
theorem kX10_twinsAgree_18 {Γ : Cxt} {Q : Int32 → XT → YT → Prop} (O : Ok Γ RX10 cX10_twinsAgree 9 { frames := 0, cells := 0, slots := 0, locals := 0 }) (r : Ret Γ (some .boolean) (qI Q)) {I18 : Int32 → Int32 → Int32 → Int32 → Int32 → XT → YT → Prop} {I50 : Int32 → Int32 → Int32 → Int32 → Int32 → Int32 → Int32 → XT → YT → Prop} {I87 : Int32 → Int32 → Int32 → Int32 → Int32 → Int32 → Int32 → XT → YT → Prop} {I110 : Int32 → Int32 → Int32 → Int32 → Int32 → Int32 → Int32 → XT → YT → Prop} {I114 : Int32 → Int32 → Int32 → Int32 → Int32 → Int32 → Int32 → XT → YT → Prop} {I115 : Int32 → Int32 → Int32 → Int32 → Int32 → Int32 → Int32 → Int32 → XT → YT → Prop} (e18 : ∀ (a1 : Int32) (a2 : Int32) (a3 : Int32) (a4 : Int32) (a5 : Int32) (X : XT) (Y : YT), I18 a1 a2 a3 a4 a5 X Y → V Γ 18 [(0, .ref 48), (1, .int a1), (2, .int a2), (3, .int a3), (4, .int a4), (5, .int a5)] [] X Y) (e50 : ∀ (a1 : Int32) (a2 : Int32) (a3 : Int32) (a4 : Int32) (a5 : Int32) (a6 : Int32) (a7 : Int32) (X : XT) (Y : YT), I50 a1 a2 a3 a4 a5 a6 a7 X Y → V Γ 50 [(0, .ref 48), (1, .int a1), (2, .int a2), (3, .int a3), (4, .int a4), (5, .int a5), (6, .int a6), (7, .int a7)] [] X Y) (e87 : ∀ (a1 : Int32) (a2 : Int32) (a3 : Int32) (a4 : Int32) (a5 : Int32) (a6 : Int32) (a7 : Int32) (X : XT) (Y : YT), I87 a1 a2 a3 a4 a5 a6 a7 X Y → V Γ 87 [(0, .ref 48), (1, .int a1), (2, .int a2), (3, .int a3), (4, .int a4), (5, .int a5), (6, .int a6), (7, .int a7)] [] X Y) (e110 : ∀ (a1 : Int32) (a2 : Int32) (a3 : Int32) (a4 : Int32) (a5 : Int32) (a6 : Int32) (a7 : Int32) (X : XT) (Y : YT), I110 a1 a2 a3 a4 a5 a6 a7 X Y → V Γ 110 [(0, .ref 48), (1, .int a1), (2, .int a2), (3, .int a3), (4, .int a4), (5, .int a5), (6, .int a6), (7, .int a7)] [] X Y) (e114 : ∀ (a1 : Int32) (a2 : Int32) (a3 : Int32) (a4 : Int32) (a5 : Int32) (a6 : Int32) (a7 : Int32) (X : XT) (Y : YT), I114 a1 a2 a3 a4 a5 a6 a7 X Y → V Γ 114 [(0, .ref 48), (1, .int a1), (2, .int a2), (3, .int a3), (4, .int a4), (5, .int a5), (6, .int a6), (7, .int a7)] [] X Y) (e115 : ∀ (a1 : Int32) (a2 : Int32) (a3 : Int32) (a4 : Int32) (a5 : Int32) (a6 : Int32) (a7 : Int32) (t0 : Int32) (X : XT) (Y : YT), I115 a1 a2 a3 a4 a5 a6 a7 t0 X Y → V Γ 115 [(0, .ref 48), (1, .int a1), (2, .int a2), (3, .int a3), (4, .int a4), (5, .int a5), (6, .int a6), (7, .int a7)] [.int t0] X Y) {a1 : Int32} {a2 : Int32} {a3 : Int32} {a4 : Int32} {a5 : Int32} {X : XT} {Y : YT} (h : BX10_twinsAgree_18 I18 I50 I87 I110 I114 I115 Q a1 a2 a3 a4 a5 X Y) : V Γ 18 [(0, .ref 48), (1, .int a1), (2, .int a2), (3, .int a3), (4, .int a4), (5, .int a5)] [] X Y := by
  refine v_iload O dX10_twinsAgree_18 5 rfl ?_
  refine v_iload_n O dX10_twinsAgree_20 rfl 1 rfl ?_
  refine v_icmp_ge (tgt := 157) O dX10_twinsAgree_21 (by decide) (fun g1 => ?_) (fun g1 => ?_)
  · refine v_iload O dX10_twinsAgree_157 4 rfl ?_
    exact v_zret O r dX10_twinsAgree_159 (h.1 g1).1 ⟨_, rfl, (h.1 g1).2⟩
  · refine v_iload O dX10_twinsAgree_24 4 rfl ?_
    refine v_if_eq (tgt := 157) O dX10_twinsAgree_26 (by decide) (fun g2 => ?_) (fun g2 => ?_)
    · refine v_iload O dX10_twinsAgree_157 4 rfl ?_
      exact v_zret O r dX10_twinsAgree_159 ((h.2 g1).1 g2).1 ⟨_, rfl, ((h.2 g1).1 g2).2⟩
    · refine v_iload_n O dX10_twinsAgree_29 rfl 3 rfl ?_
      refine v_if_lt (tgt := 157) O dX10_twinsAgree_30 (by decide) (fun g3 => ?_) (fun g3 => ?_)
      · refine v_iload O dX10_twinsAgree_157 4 rfl ?_
        exact v_zret O r dX10_twinsAgree_159 (((h.2 g1).2 g2).1 g3).1 ⟨_, rfl, (((h.2 g1).2 g2).1 g3).2⟩
      · refine v_aload_n O dX10_twinsAgree_33 rfl 0 rfl ?_
        refine v_get O dX10_twinsAgree_34 fo_X10_52 sh_48 rfl rfl ?_
        refine v_aload_n O dX10_twinsAgree_37 rfl 0 rfl ?_
        refine v_get O dX10_twinsAgree_38 fo_X10_83 sh_48 rfl rfl ?_
        refine v_iload O dX10_twinsAgree_41 5 rfl ?_
        refine v_iald O dX10_twinsAgree_43 sh_72 (((h.2 g1).2 g2).2 g3).1 ?_
        refine v_iald O dX10_twinsAgree_44 sh_63 (((h.2 g1).2 g2).2 g3).2.1 ?_
        refine v_topi (fun w4 hw5 => ?_)
        refine v_istore (lv' := [(6, .int w4), (0, .ref 48), (1, .int a1), (2, .int a2), (3, .int a3), (4, .int a4), (5, .int a5)]) O dX10_twinsAgree_45 (by decide) rfl ?_
        refine v_iconst O dX10_twinsAgree_47 kc_0 ?_
        refine v_istore (lv' := [(7, .int 0), (6, .int w4), (0, .ref 48), (1, .int a1), (2, .int a2), (3, .int a3), (4, .int a4), (5, .int a5)]) O dX10_twinsAgree_48 (by decide) rfl ?_
        exact v_loc [2, 3, 4, 5, 6, 7, 1, 0] rfl (e50 a1 a2 a3 a4 a5 w4 0 X Y ((((h.2 g1).2 g2).2 g3).2.2 w4 hw5))
set_option maxHeartbeats 4000000 in
set_option maxRecDepth 100000 in
theorem kX10_twinsAgree_50 {Γ : Cxt} {Q : Int32 → XT → YT → Prop} (O : Ok Γ RX10 cX10_twinsAgree 9 { frames := 0, cells := 0, slots := 0, locals := 0 }) (r : Ret Γ (some .boolean) (qI Q)) {I18 : Int32 → Int32 → Int32 → Int32 → Int32 → XT → YT → Prop} {I50 : Int32 → Int32 → Int32 → Int32 → Int32 → Int32 → Int32 → XT → YT → Prop} {I87 : Int32 → Int32 → Int32 → Int32 → Int32 → Int32 → Int32 → XT → YT → Prop} {I110 : Int32 → Int32 → Int32 → Int32 → Int32 → Int32 → Int32 → XT → YT → Prop} {I114 : Int32 → Int32 → Int32 → Int32 → Int32 → Int32 → Int32 → XT → YT → Prop} {I115 : Int32 → Int32 → Int32 → Int32 → Int32 → Int32 → Int32 → Int32 → XT → YT → Prop} (e18 : ∀ (a1 : Int32) (a2 : Int32) (a3 : Int32) (a4 : Int32) (a5 : Int32) (X : XT) (Y : YT), I18 a1 a2 a3 a4 a5 X Y → V Γ 18 [(0, .ref 48), (1, .int a1), (2, .int a2), (3, .int a3), (4, .int a4), (5, .int a5)] [] X Y) (e50 : ∀ (a1 : Int32) (a2 : Int32) (a3 : Int32) (a4 : Int32) (a5 : Int32) (a6 : Int32) (a7 : Int32) (X : XT) (Y : YT), I50 a1 a2 a3 a4 a5 a6 a7 X Y → V Γ 50 [(0, .ref 48), (1, .int a1), (2, .int a2), (3, .int a3), (4, .int a4), (5, .int a5), (6, .int a6), (7, .int a7)] [] X Y) (e87 : ∀ (a1 : Int32) (a2 : Int32) (a3 : Int32) (a4 : Int32) (a5 : Int32) (a6 : Int32) (a7 : Int32) (X : XT) (Y : YT), I87 a1 a2 a3 a4 a5 a6 a7 X Y → V Γ 87 [(0, .ref 48), (1, .int a1), (2, .int a2), (3, .int a3), (4, .int a4), (5, .int a5), (6, .int a6), (7, .int a7)] [] X Y) (e110 : ∀ (a1 : Int32) (a2 : Int32) (a3 : Int32) (a4 : Int32) (a5 : Int32) (a6 : Int32) (a7 : Int32) (X : XT) (Y : YT), I110 a1 a2 a3 a4 a5 a6 a7 X Y → V Γ 110 [(0, .ref 48), (1, .int a1), (2, .int a2), (3, .int a3), (4, .int a4), (5, .int a5), (6, .int a6), (7, .int a7)] [] X Y) (e114 : ∀ (a1 : Int32) (a2 : Int32) (a3 : Int32) (a4 : Int32) (a5 : Int32) (a6 : Int32) (a7 : Int32) (X : XT) (Y : YT), I114 a1 a2 a3 a4 a5 a6 a7 X Y → V Γ 114 [(0, .ref 48), (1, .int a1), (2, .int a2), (3, .int a3), (4, .int a4), (5, .int a5), (6, .int a6), (7, .int a7)] [] X Y) (e115 : ∀ (a1 : Int32) (a2 : Int32) (a3 : Int32) (a4 : Int32) (a5 : Int32) (a6 : Int32) (a7 : Int32) (t0 : Int32) (X : XT) (Y : YT), I115 a1 a2 a3 a4 a5 a6 a7 t0 X Y → V Γ 115 [(0, .ref 48), (1, .int a1), (2, .int a2), (3, .int a3), (4, .int a4), (5, .int a5), (6, .int a6), (7, .int a7)] [.int t0] X Y) {a1 : Int32} {a2 : Int32} {a3 : Int32} {a4 : Int32} {a5 : Int32} {a6 : Int32} {a7 : Int32} {X : XT} {Y : YT} (h : BX10_twinsAgree_50 I18 I50 I87 I110 I114 I115 Q a1 a2 a3 a4 a5 a6 a7 X Y) : V Γ 50 [(0, .ref 48), (1, .int a1), (2, .int a2), (3, .int a3), (4, .int a4), (5, .int a5), (6, .int a6), (7, .int a7)] [] X Y := by
  refine v_iload O dX10_twinsAgree_50 7 rfl ?_
  refine v_aload_n O dX10_twinsAgree_52 rfl 0 rfl ?_
  refine v_get O dX10_twinsAgree_53 fo_X10_165 sh_48 rfl rfl ?_
  refine v_icmp_ge (tgt := 151) O dX10_twinsAgree_56 (by decide) (fun g1 => ?_) (fun g1 => ?_)
  · obtain ⟨w2, hw3⟩ : ∃ y : Int32, y = a5 + 1 := ⟨_, rfl⟩
    refine v_iinc (v := w2) (j := 5) O dX10_twinsAgree_151 rfl (by rw [hw3]; exact congrArg _ kc_1) (by decide) (lv' := [(5, .int w2), (0, .ref 48), (1, .int a1), (2, .int a2), (3, .int a3), (4, .int a4), (6, .int a6), (7, .int a7)]) rfl ?_
    refine v_goto O dX10_twinsAgree_154 (tgt := 18) (by decide) ?_
    exact v_loc [1, 2, 3, 4, 5, 0] rfl (e18 a1 a2 a3 a4 w2 X Y ((h.1 g1) w2 hw3))
  · refine v_iload O dX10_twinsAgree_59 6 rfl ?_
    refine v_if_lt (tgt := 151) O dX10_twinsAgree_61 (by decide) (fun g4 => ?_) (fun g4 => ?_)
    · obtain ⟨w5, hw6⟩ : ∃ y : Int32, y = a5 + 1 := ⟨_, rfl⟩
      refine v_iinc (v := w5) (j := 5) O dX10_twinsAgree_151 rfl (by rw [hw6]; exact congrArg _ kc_1) (by decide) (lv' := [(5, .int w5), (0, .ref 48), (1, .int a1), (2, .int a2), (3, .int a3), (4, .int a4), (6, .int a6), (7, .int a7)]) rfl ?_
      refine v_goto O dX10_twinsAgree_154 (tgt := 18) (by decide) ?_
      exact v_loc [1, 2, 3, 4, 5, 0] rfl (e18 a1 a2 a3 a4 w5 X Y (((h.2 g1).1 g4) w5 hw6))
    · refine v_aload_n O dX10_twinsAgree_64 rfl 0 rfl ?_
      refine v_get O dX10_twinsAgree_65 fo_X10_61 sh_48 rfl rfl ?_
      refine v_iload O dX10_twinsAgree_68 7 rfl ?_
      refine v_iald O dX10_twinsAgree_70 sh_66 ((h.2 g1).2 g4).1 ?_
      refine v_iload_n O dX10_twinsAgree_71 rfl 3 rfl ?_
      refine v_icmp_ne (tgt := 87) O dX10_twinsAgree_72 (by decide) (fun g7 => ?_) (fun g7 => ?_)
      · exact v_loc [0, 1, 2, 3, 4, 5, 6, 7] rfl (e87 a1 a2 a3 a4 a5 a6 a7 X Y (((h.2 g1).2 g4).2.1 g7))
      · refine v_aload_n O dX10_twinsAgree_75 rfl 0 rfl ?_
        refine v_get O dX10_twinsAgree_76 fo_X10_64 sh_48 rfl rfl ?_
        refine v_iload O dX10_twinsAgree_79 7 rfl ?_
        refine v_iald O dX10_twinsAgree_81 sh_67 (((h.2 g1).2 g4).2.2 g7).1 ?_
        refine v_iload O dX10_twinsAgree_82 6 rfl ?_
        refine v_icmp_eq (tgt := 110) O dX10_twinsAgree_84 (by decide) (fun g8 => ?_) (fun g8 => ?_)
        · exact v_loc [0, 1, 2, 3, 4, 5, 6, 7] rfl (e110 a1 a2 a3 a4 a5 a6 a7 X Y ((((h.2 g1).2 g4).2.2 g7).2.1 g8))
        · exact v_loc [0, 1, 2, 3, 4, 5, 6, 7] rfl (e87 a1 a2 a3 a4 a5 a6 a7 X Y ((((h.2 g1).2 g4).2.2 g7).2.2 g8))
set_option maxHeartbeats 4000000 in
set_option maxRecDepth 100000 in
theorem kX10_twinsAgree_87 {Γ : Cxt} {Q : Int32 → XT → YT → Prop} (O : Ok Γ RX10 cX10_twinsAgree 9 { frames := 0, cells := 0, slots := 0, locals := 0 }) (r : Ret Γ (some .boolean) (qI Q)) {I18 : Int32 → Int32 → Int32 → Int32 → Int32 → XT → YT → Prop} {I50 : Int32 → Int32 → Int32 → Int32 → Int32 → Int32 → Int32 → XT → YT → Prop} {I87 : Int32 → Int32 → Int32 → Int32 → Int32 → Int32 → Int32 → XT → YT → Prop} {I110 : Int32 → Int32 → Int32 → Int32 → Int32 → Int32 → Int32 → XT → YT → Prop} {I114 : Int32 → Int32 → Int32 → Int32 → Int32 → Int32 → Int32 → XT → YT → Prop} {I115 : Int32 → Int32 → Int32 → Int32 → Int32 → Int32 → Int32 → Int32 → XT → YT → Prop} (e18 : ∀ (a1 : Int32) (a2 : Int32) (a3 : Int32) (a4 : Int32) (a5 : Int32) (X : XT) (Y : YT), I18 a1 a2 a3 a4 a5 X Y → V Γ 18 [(0, .ref 48), (1, .int a1), (2, .int a2), (3, .int a3), (4, .int a4), (5, .int a5)] [] X Y) (e50 : ∀ (a1 : Int32) (a2 : Int32) (a3 : Int32) (a4 : Int32) (a5 : Int32) (a6 : Int32) (a7 : Int32) (X : XT) (Y : YT), I50 a1 a2 a3 a4 a5 a6 a7 X Y → V Γ 50 [(0, .ref 48), (1, .int a1), (2, .int a2), (3, .int a3), (4, .int a4), (5, .int a5), (6, .int a6), (7, .int a7)] [] X Y) (e87 : ∀ (a1 : Int32) (a2 : Int32) (a3 : Int32) (a4 : Int32) (a5 : Int32) (a6 : Int32) (a7 : Int32) (X : XT) (Y : YT), I87 a1 a2 a3 a4 a5 a6 a7 X Y → V Γ 87 [(0, .ref 48), (1, .int a1), (2, .int a2), (3, .int a3), (4, .int a4), (5, .int a5), (6, .int a6), (7, .int a7)] [] X Y) (e110 : ∀ (a1 : Int32) (a2 : Int32) (a3 : Int32) (a4 : Int32) (a5 : Int32) (a6 : Int32) (a7 : Int32) (X : XT) (Y : YT), I110 a1 a2 a3 a4 a5 a6 a7 X Y → V Γ 110 [(0, .ref 48), (1, .int a1), (2, .int a2), (3, .int a3), (4, .int a4), (5, .int a5), (6, .int a6), (7, .int a7)] [] X Y) (e114 : ∀ (a1 : Int32) (a2 : Int32) (a3 : Int32) (a4 : Int32) (a5 : Int32) (a6 : Int32) (a7 : Int32) (X : XT) (Y : YT), I114 a1 a2 a3 a4 a5 a6 a7 X Y → V Γ 114 [(0, .ref 48), (1, .int a1), (2, .int a2), (3, .int a3), (4, .int a4), (5, .int a5), (6, .int a6), (7, .int a7)] [] X Y) (e115 : ∀ (a1 : Int32) (a2 : Int32) (a3 : Int32) (a4 : Int32) (a5 : Int32) (a6 : Int32) (a7 : Int32) (t0 : Int32) (X : XT) (Y : YT), I115 a1 a2 a3 a4 a5 a6 a7 t0 X Y → V Γ 115 [(0, .ref 48), (1, .int a1), (2, .int a2), (3, .int a3), (4, .int a4), (5, .int a5), (6, .int a6), (7, .int a7)] [.int t0] X Y) {a1 : Int32} {a2 : Int32} {a3 : Int32} {a4 : Int32} {a5 : Int32} {a6 : Int32} {a7 : Int32} {X : XT} {Y : YT} (h : BX10_twinsAgree_87 I18 I50 I87 I110 I114 I115 Q a1 a2 a3 a4 a5 a6 a7 X Y) : V Γ 87 [(0, .ref 48), (1, .int a1), (2, .int a2), (3, .int a3), (4, .int a4), (5, .int a5), (6, .int a6), (7, .int a7)] [] X Y := by
  refine v_aload_n O dX10_twinsAgree_87 rfl 0 rfl ?_
  refine v_get O dX10_twinsAgree_88 fo_X10_61 sh_48 rfl rfl ?_
  refine v_iload O dX10_twinsAgree_91 7 rfl ?_
  refine v_iald O dX10_twinsAgree_93 sh_66 h.1 ?_
  refine v_iload O dX10_twinsAgree_94 6 rfl ?_
  refine v_icmp_ne (tgt := 114) O dX10_twinsAgree_96 (by decide) (fun g1 => ?_) (fun g1 => ?_)
  · exact v_loc [0, 1, 2, 3, 4, 5, 6, 7] rfl (e114 a1 a2 a3 a4 a5 a6 a7 X Y (h.2.1 g1))
  · refine v_aload_n O dX10_twinsAgree_99 rfl 0 rfl ?_
    refine v_get O dX10_twinsAgree_100 fo_X10_64 sh_48 rfl rfl ?_
    refine v_iload O dX10_twinsAgree_103 7 rfl ?_
    refine v_iald O dX10_twinsAgree_105 sh_67 (h.2.2 g1).1 ?_
    refine v_iload_n O dX10_twinsAgree_106 rfl 3 rfl ?_
    refine v_icmp_ne (tgt := 114) O dX10_twinsAgree_107 (by decide) (fun g2 => ?_) (fun g2 => ?_)
    · exact v_loc [0, 1, 2, 3, 4, 5, 6, 7] rfl (e114 a1 a2 a3 a4 a5 a6 a7 X Y ((h.2.2 g1).2.1 g2))
    · exact v_loc [0, 1, 2, 3, 4, 5, 6, 7] rfl (e110 a1 a2 a3 a4 a5 a6 a7 X Y ((h.2.2 g1).2.2 g2))
set_option maxHeartbeats 4000000 in
set_option maxRecDepth 100000 in
theorem kX10_twinsAgree_110 {Γ : Cxt} {Q : Int32 → XT → YT → Prop} (O : Ok Γ RX10 cX10_twinsAgree 9 { frames := 0, cells := 0, slots := 0, locals := 0 }) (r : Ret Γ (some .boolean) (qI Q)) {I18 : Int32 → Int32 → Int32 → Int32 → Int32 → XT → YT → Prop} {I50 : Int32 → Int32 → Int32 → Int32 → Int32 → Int32 → Int32 → XT → YT → Prop} {I87 : Int32 → Int32 → Int32 → Int32 → Int32 → Int32 → Int32 → XT → YT → Prop} {I110 : Int32 → Int32 → Int32 → Int32 → Int32 → Int32 → Int32 → XT → YT → Prop} {I114 : Int32 → Int32 → Int32 → Int32 → Int32 → Int32 → Int32 → XT → YT → Prop} {I115 : Int32 → Int32 → Int32 → Int32 → Int32 → Int32 → Int32 → Int32 → XT → YT → Prop} (e18 : ∀ (a1 : Int32) (a2 : Int32) (a3 : Int32) (a4 : Int32) (a5 : Int32) (X : XT) (Y : YT), I18 a1 a2 a3 a4 a5 X Y → V Γ 18 [(0, .ref 48), (1, .int a1), (2, .int a2), (3, .int a3), (4, .int a4), (5, .int a5)] [] X Y) (e50 : ∀ (a1 : Int32) (a2 : Int32) (a3 : Int32) (a4 : Int32) (a5 : Int32) (a6 : Int32) (a7 : Int32) (X : XT) (Y : YT), I50 a1 a2 a3 a4 a5 a6 a7 X Y → V Γ 50 [(0, .ref 48), (1, .int a1), (2, .int a2), (3, .int a3), (4, .int a4), (5, .int a5), (6, .int a6), (7, .int a7)] [] X Y) (e87 : ∀ (a1 : Int32) (a2 : Int32) (a3 : Int32) (a4 : Int32) (a5 : Int32) (a6 : Int32) (a7 : Int32) (X : XT) (Y : YT), I87 a1 a2 a3 a4 a5 a6 a7 X Y → V Γ 87 [(0, .ref 48), (1, .int a1), (2, .int a2), (3, .int a3), (4, .int a4), (5, .int a5), (6, .int a6), (7, .int a7)] [] X Y) (e110 : ∀ (a1 : Int32) (a2 : Int32) (a3 : Int32) (a4 : Int32) (a5 : Int32) (a6 : Int32) (a7 : Int32) (X : XT) (Y : YT), I110 a1 a2 a3 a4 a5 a6 a7 X Y → V Γ 110 [(0, .ref 48), (1, .int a1), (2, .int a2), (3, .int a3), (4, .int a4), (5, .int a5), (6, .int a6), (7, .int a7)] [] X Y) (e114 : ∀ (a1 : Int32) (a2 : Int32) (a3 : Int32) (a4 : Int32) (a5 : Int32) (a6 : Int32) (a7 : Int32) (X : XT) (Y : YT), I114 a1 a2 a3 a4 a5 a6 a7 X Y → V Γ 114 [(0, .ref 48), (1, .int a1), (2, .int a2), (3, .int a3), (4, .int a4), (5, .int a5), (6, .int a6), (7, .int a7)] [] X Y) (e115 : ∀ (a1 : Int32) (a2 : Int32) (a3 : Int32) (a4 : Int32) (a5 : Int32) (a6 : Int32) (a7 : Int32) (t0 : Int32) (X : XT) (Y : YT), I115 a1 a2 a3 a4 a5 a6 a7 t0 X Y → V Γ 115 [(0, .ref 48), (1, .int a1), (2, .int a2), (3, .int a3), (4, .int a4), (5, .int a5), (6, .int a6), (7, .int a7)] [.int t0] X Y) {a1 : Int32} {a2 : Int32} {a3 : Int32} {a4 : Int32} {a5 : Int32} {a6 : Int32} {a7 : Int32} {X : XT} {Y : YT} (h : BX10_twinsAgree_110 I18 I50 I87 I110 I114 I115 Q a1 a2 a3 a4 a5 a6 a7 X Y) : V Γ 110 [(0, .ref 48), (1, .int a1), (2, .int a2), (3, .int a3), (4, .int a4), (5, .int a5), (6, .int a6), (7, .int a7)] [] X Y := by
  refine v_iconst O dX10_twinsAgree_110 kc_1 ?_
  refine v_goto O dX10_twinsAgree_111 (tgt := 115) (by decide) ?_
  exact v_loc [0, 1, 2, 3, 4, 5, 6, 7] rfl (e115 a1 a2 a3 a4 a5 a6 a7 1 X Y h)
set_option maxHeartbeats 4000000 in
set_option maxRecDepth 100000 in
theorem kX10_twinsAgree_114 {Γ : Cxt} {Q : Int32 → XT → YT → Prop} (O : Ok Γ RX10 cX10_twinsAgree 9 { frames := 0, cells := 0, slots := 0, locals := 0 }) (r : Ret Γ (some .boolean) (qI Q)) {I18 : Int32 → Int32 → Int32 → Int32 → Int32 → XT → YT → Prop} {I50 : Int32 → Int32 → Int32 → Int32 → Int32 → Int32 → Int32 → XT → YT → Prop} {I87 : Int32 → Int32 → Int32 → Int32 → Int32 → Int32 → Int32 → XT → YT → Prop} {I110 : Int32 → Int32 → Int32 → Int32 → Int32 → Int32 → Int32 → XT → YT → Prop} {I114 : Int32 → Int32 → Int32 → Int32 → Int32 → Int32 → Int32 → XT → YT → Prop} {I115 : Int32 → Int32 → Int32 → Int32 → Int32 → Int32 → Int32 → Int32 → XT → YT → Prop} (e18 : ∀ (a1 : Int32) (a2 : Int32) (a3 : Int32) (a4 : Int32) (a5 : Int32) (X : XT) (Y : YT), I18 a1 a2 a3 a4 a5 X Y → V Γ 18 [(0, .ref 48), (1, .int a1), (2, .int a2), (3, .int a3), (4, .int a4), (5, .int a5)] [] X Y) (e50 : ∀ (a1 : Int32) (a2 : Int32) (a3 : Int32) (a4 : Int32) (a5 : Int32) (a6 : Int32) (a7 : Int32) (X : XT) (Y : YT), I50 a1 a2 a3 a4 a5 a6 a7 X Y → V Γ 50 [(0, .ref 48), (1, .int a1), (2, .int a2), (3, .int a3), (4, .int a4), (5, .int a5), (6, .int a6), (7, .int a7)] [] X Y) (e87 : ∀ (a1 : Int32) (a2 : Int32) (a3 : Int32) (a4 : Int32) (a5 : Int32) (a6 : Int32) (a7 : Int32) (X : XT) (Y : YT), I87 a1 a2 a3 a4 a5 a6 a7 X Y → V Γ 87 [(0, .ref 48), (1, .int a1), (2, .int a2), (3, .int a3), (4, .int a4), (5, .int a5), (6, .int a6), (7, .int a7)] [] X Y) (e110 : ∀ (a1 : Int32) (a2 : Int32) (a3 : Int32) (a4 : Int32) (a5 : Int32) (a6 : Int32) (a7 : Int32) (X : XT) (Y : YT), I110 a1 a2 a3 a4 a5 a6 a7 X Y → V Γ 110 [(0, .ref 48), (1, .int a1), (2, .int a2), (3, .int a3), (4, .int a4), (5, .int a5), (6, .int a6), (7, .int a7)] [] X Y) (e114 : ∀ (a1 : Int32) (a2 : Int32) (a3 : Int32) (a4 : Int32) (a5 : Int32) (a6 : Int32) (a7 : Int32) (X : XT) (Y : YT), I114 a1 a2 a3 a4 a5 a6 a7 X Y → V Γ 114 [(0, .ref 48), (1, .int a1), (2, .int a2), (3, .int a3), (4, .int a4), (5, .int a5), (6, .int a6), (7, .int a7)] [] X Y) (e115 : ∀ (a1 : Int32) (a2 : Int32) (a3 : Int32) (a4 : Int32) (a5 : Int32) (a6 : Int32) (a7 : Int32) (t0 : Int32) (X : XT) (Y : YT), I115 a1 a2 a3 a4 a5 a6 a7 t0 X Y → V Γ 115 [(0, .ref 48), (1, .int a1), (2, .int a2), (3, .int a3), (4, .int a4), (5, .int a5), (6, .int a6), (7, .int a7)] [.int t0] X Y) {a1 : Int32} {a2 : Int32} {a3 : Int32} {a4 : Int32} {a5 : Int32} {a6 : Int32} {a7 : Int32} {X : XT} {Y : YT} (h : BX10_twinsAgree_114 I18 I50 I87 I110 I114 I115 Q a1 a2 a3 a4 a5 a6 a7 X Y) : V Γ 114 [(0, .ref 48), (1, .int a1), (2, .int a2), (3, .int a3), (4, .int a4), (5, .int a5), (6, .int a6), (7, .int a7)] [] X Y := by
  refine v_iconst O dX10_twinsAgree_114 kc_0 ?_
  exact v_loc [0, 1, 2, 3, 4, 5, 6, 7] rfl (e115 a1 a2 a3 a4 a5 a6 a7 0 X Y h)
set_option maxHeartbeats 4000000 in
set_option maxRecDepth 100000 in
theorem kX10_twinsAgree_115 {Γ : Cxt} {Q : Int32 → XT → YT → Prop} (O : Ok Γ RX10 cX10_twinsAgree 9 { frames := 0, cells := 0, slots := 0, locals := 0 }) (r : Ret Γ (some .boolean) (qI Q)) {I18 : Int32 → Int32 → Int32 → Int32 → Int32 → XT → YT → Prop} {I50 : Int32 → Int32 → Int32 → Int32 → Int32 → Int32 → Int32 → XT → YT → Prop} {I87 : Int32 → Int32 → Int32 → Int32 → Int32 → Int32 → Int32 → XT → YT → Prop} {I110 : Int32 → Int32 → Int32 → Int32 → Int32 → Int32 → Int32 → XT → YT → Prop} {I114 : Int32 → Int32 → Int32 → Int32 → Int32 → Int32 → Int32 → XT → YT → Prop} {I115 : Int32 → Int32 → Int32 → Int32 → Int32 → Int32 → Int32 → Int32 → XT → YT → Prop} (e18 : ∀ (a1 : Int32) (a2 : Int32) (a3 : Int32) (a4 : Int32) (a5 : Int32) (X : XT) (Y : YT), I18 a1 a2 a3 a4 a5 X Y → V Γ 18 [(0, .ref 48), (1, .int a1), (2, .int a2), (3, .int a3), (4, .int a4), (5, .int a5)] [] X Y) (e50 : ∀ (a1 : Int32) (a2 : Int32) (a3 : Int32) (a4 : Int32) (a5 : Int32) (a6 : Int32) (a7 : Int32) (X : XT) (Y : YT), I50 a1 a2 a3 a4 a5 a6 a7 X Y → V Γ 50 [(0, .ref 48), (1, .int a1), (2, .int a2), (3, .int a3), (4, .int a4), (5, .int a5), (6, .int a6), (7, .int a7)] [] X Y) (e87 : ∀ (a1 : Int32) (a2 : Int32) (a3 : Int32) (a4 : Int32) (a5 : Int32) (a6 : Int32) (a7 : Int32) (X : XT) (Y : YT), I87 a1 a2 a3 a4 a5 a6 a7 X Y → V Γ 87 [(0, .ref 48), (1, .int a1), (2, .int a2), (3, .int a3), (4, .int a4), (5, .int a5), (6, .int a6), (7, .int a7)] [] X Y) (e110 : ∀ (a1 : Int32) (a2 : Int32) (a3 : Int32) (a4 : Int32) (a5 : Int32) (a6 : Int32) (a7 : Int32) (X : XT) (Y : YT), I110 a1 a2 a3 a4 a5 a6 a7 X Y → V Γ 110 [(0, .ref 48), (1, .int a1), (2, .int a2), (3, .int a3), (4, .int a4), (5, .int a5), (6, .int a6), (7, .int a7)] [] X Y) (e114 : ∀ (a1 : Int32) (a2 : Int32) (a3 : Int32) (a4 : Int32) (a5 : Int32) (a6 : Int32) (a7 : Int32) (X : XT) (Y : YT), I114 a1 a2 a3 a4 a5 a6 a7 X Y → V Γ 114 [(0, .ref 48), (1, .int a1), (2, .int a2), (3, .int a3), (4, .int a4), (5, .int a5), (6, .int a6), (7, .int a7)] [] X Y) (e115 : ∀ (a1 : Int32) (a2 : Int32) (a3 : Int32) (a4 : Int32) (a5 : Int32) (a6 : Int32) (a7 : Int32) (t0 : Int32) (X : XT) (Y : YT), I115 a1 a2 a3 a4 a5 a6 a7 t0 X Y → V Γ 115 [(0, .ref 48), (1, .int a1), (2, .int a2), (3, .int a3), (4, .int a4), (5, .int a5), (6, .int a6), (7, .int a7)] [.int t0] X Y) {a1 : Int32} {a2 : Int32} {a3 : Int32} {a4 : Int32} {a5 : Int32} {a6 : Int32} {a7 : Int32} {t0 : Int32} {X : XT} {Y : YT} (h : BX10_twinsAgree_115 I18 I50 I87 I110 I114 I115 Q a1 a2 a3 a4 a5 a6 a7 t0 X Y) : V Γ 115 [(0, .ref 48), (1, .int a1), (2, .int a2), (3, .int a3), (4, .int a4), (5, .int a5), (6, .int a6), (7, .int a7)] [.int t0] X Y := by
  refine v_istore (lv' := [(8, .int t0), (0, .ref 48), (1, .int a1), (2, .int a2), (3, .int a3), (4, .int a4), (5, .int a5), (6, .int a6), (7, .int a7)]) O dX10_twinsAgree_115 (by decide) rfl ?_
  refine v_iload O dX10_twinsAgree_117 5 rfl ?_
  refine v_if_eq (tgt := 142) O dX10_twinsAgree_119 (by decide) (fun g1 => ?_) (fun g1 => ?_)
  · refine v_iconst O dX10_twinsAgree_142 kc_0 ?_
    refine v_istore (lv' := [(4, .int 0), (8, .int t0), (0, .ref 48), (1, .int a1), (2, .int a2), (3, .int a3), (5, .int a5), (6, .int a6), (7, .int a7)]) O dX10_twinsAgree_143 (by decide) rfl ?_
    obtain ⟨w2, hw3⟩ : ∃ y : Int32, y = a7 + 1 := ⟨_, rfl⟩
    refine v_iinc (v := w2) (j := 8) O dX10_twinsAgree_145 rfl (by rw [hw3]; exact congrArg _ kc_1) (by decide) (lv' := [(7, .int w2), (4, .int 0), (8, .int t0), (0, .ref 48), (1, .int a1), (2, .int a2), (3, .int a3), (5, .int a5), (6, .int a6)]) rfl ?_
    refine v_goto O dX10_twinsAgree_148 (tgt := 50) (by decide) ?_
    exact v_loc [3, 4, 5, 6, 1, 7, 8, 0] rfl (e50 a1 a2 a3 0 a5 a6 w2 X Y ((h.1 g1) w2 hw3))
  · refine v_iload O dX10_twinsAgree_122 0 rfl ?_
    refine v_if_eq (tgt := 138) O dX10_twinsAgree_124 (by decide) (fun g4 => ?_) (fun g4 => ?_)
    · refine v_iconst O dX10_twinsAgree_138 kc_1 ?_
      refine v_goto O dX10_twinsAgree_139 (tgt := 143) (by decide) ?_
      refine v_istore (lv' := [(4, .int 1), (8, .int t0), (0, .ref 48), (1, .int a1), (2, .int a2), (3, .int a3), (5, .int a5), (6, .int a6), (7, .int a7)]) O dX10_twinsAgree_143 (by decide) rfl ?_
      obtain ⟨w5, hw6⟩ : ∃ y : Int32, y = a7 + 1 := ⟨_, rfl⟩
      refine v_iinc (v := w5) (j := 8) O dX10_twinsAgree_145 rfl (by rw [hw6]; exact congrArg _ kc_1) (by decide) (lv' := [(7, .int w5), (4, .int 1), (8, .int t0), (0, .ref 48), (1, .int a1), (2, .int a2), (3, .int a3), (5, .int a5), (6, .int a6)]) rfl ?_
      refine v_goto O dX10_twinsAgree_148 (tgt := 50) (by decide) ?_
      exact v_loc [3, 4, 5, 6, 1, 7, 8, 0] rfl (e50 a1 a2 a3 1 a5 a6 w5 X Y (((h.2 g1).1 g4) w5 hw6))
    · refine v_aload_n O dX10_twinsAgree_127 rfl 1 rfl ?_
      refine v_get O dX10_twinsAgree_128 fo_X10_86 sh_48 rfl rfl ?_
      refine v_iload O dX10_twinsAgree_131 6 rfl ?_
      refine v_iald O dX10_twinsAgree_133 sh_73 ((h.2 g1).2 g4).1 ?_
      refine v_iload_n O dX10_twinsAgree_134 rfl 3 rfl ?_
      refine v_icmp_ne (tgt := 142) O dX10_twinsAgree_135 (by decide) (fun g7 => ?_) (fun g7 => ?_)
      · refine v_iconst O dX10_twinsAgree_142 kc_0 ?_
        refine v_istore (lv' := [(4, .int 0), (8, .int t0), (0, .ref 48), (1, .int a1), (2, .int a2), (3, .int a3), (5, .int a5), (6, .int a6), (7, .int a7)]) O dX10_twinsAgree_143 (by decide) rfl ?_
        obtain ⟨w8, hw9⟩ : ∃ y : Int32, y = a7 + 1 := ⟨_, rfl⟩
        refine v_iinc (v := w8) (j := 8) O dX10_twinsAgree_145 rfl (by rw [hw9]; exact congrArg _ kc_1) (by decide) (lv' := [(7, .int w8), (4, .int 0), (8, .int t0), (0, .ref 48), (1, .int a1), (2, .int a2), (3, .int a3), (5, .int a5), (6, .int a6)]) rfl ?_
        refine v_goto O dX10_twinsAgree_148 (tgt := 50) (by decide) ?_
        exact v_loc [3, 4, 5, 6, 1, 7, 8, 0] rfl (e50 a1 a2 a3 0 a5 a6 w8 X Y ((((h.2 g1).2 g4).2.1 g7) w8 hw9))
      · refine v_iconst O dX10_twinsAgree_138 kc_1 ?_
        refine v_goto O dX10_twinsAgree_139 (tgt := 143) (by decide) ?_
        refine v_istore (lv' := [(4, .int 1), (8, .int t0), (0, .ref 48), (1, .int a1), (2, .int a2), (3, .int a3), (5, .int a5), (6, .int a6), (7, .int a7)]) O dX10_twinsAgree_143 (by decide) rfl ?_
        obtain ⟨w10, hw11⟩ : ∃ y : Int32, y = a7 + 1 := ⟨_, rfl⟩
        refine v_iinc (v := w10) (j := 8) O dX10_twinsAgree_145 rfl (by rw [hw11]; exact congrArg _ kc_1) (by decide) (lv' := [(7, .int w10), (4, .int 1), (8, .int t0), (0, .ref 48), (1, .int a1), (2, .int a2), (3, .int a3), (5, .int a5), (6, .int a6)]) rfl ?_
        refine v_goto O dX10_twinsAgree_148 (tgt := 50) (by decide) ?_
        exact v_loc [3, 4, 5, 6, 1, 7, 8, 0] rfl (e50 a1 a2 a3 1 a5 a6 w10 X Y ((((h.2 g1).2 g4).2.2 g7) w10 hw11))
set_option maxHeartbeats 4000000 in
set_option maxRecDepth 100000 in
theorem kX10_twinsAgree_s {Γ : Cxt} {Q : Int32 → XT → YT → Prop} (O : Ok Γ RX10 cX10_twinsAgree 9 { frames := 0, cells := 0, slots := 0, locals := 0 }) (r : Ret Γ (some .boolean) (qI Q)) {I18 : Int32 → Int32 → Int32 → Int32 → Int32 → XT → YT → Prop} {I50 : Int32 → Int32 → Int32 → Int32 → Int32 → Int32 → Int32 → XT → YT → Prop} {I87 : Int32 → Int32 → Int32 → Int32 → Int32 → Int32 → Int32 → XT → YT → Prop} {I110 : Int32 → Int32 → Int32 → Int32 → Int32 → Int32 → Int32 → XT → YT → Prop} {I114 : Int32 → Int32 → Int32 → Int32 → Int32 → Int32 → Int32 → XT → YT → Prop} {I115 : Int32 → Int32 → Int32 → Int32 → Int32 → Int32 → Int32 → Int32 → XT → YT → Prop} (e18 : ∀ (a1 : Int32) (a2 : Int32) (a3 : Int32) (a4 : Int32) (a5 : Int32) (X : XT) (Y : YT), I18 a1 a2 a3 a4 a5 X Y → V Γ 18 [(0, .ref 48), (1, .int a1), (2, .int a2), (3, .int a3), (4, .int a4), (5, .int a5)] [] X Y) (e50 : ∀ (a1 : Int32) (a2 : Int32) (a3 : Int32) (a4 : Int32) (a5 : Int32) (a6 : Int32) (a7 : Int32) (X : XT) (Y : YT), I50 a1 a2 a3 a4 a5 a6 a7 X Y → V Γ 50 [(0, .ref 48), (1, .int a1), (2, .int a2), (3, .int a3), (4, .int a4), (5, .int a5), (6, .int a6), (7, .int a7)] [] X Y) (e87 : ∀ (a1 : Int32) (a2 : Int32) (a3 : Int32) (a4 : Int32) (a5 : Int32) (a6 : Int32) (a7 : Int32) (X : XT) (Y : YT), I87 a1 a2 a3 a4 a5 a6 a7 X Y → V Γ 87 [(0, .ref 48), (1, .int a1), (2, .int a2), (3, .int a3), (4, .int a4), (5, .int a5), (6, .int a6), (7, .int a7)] [] X Y) (e110 : ∀ (a1 : Int32) (a2 : Int32) (a3 : Int32) (a4 : Int32) (a5 : Int32) (a6 : Int32) (a7 : Int32) (X : XT) (Y : YT), I110 a1 a2 a3 a4 a5 a6 a7 X Y → V Γ 110 [(0, .ref 48), (1, .int a1), (2, .int a2), (3, .int a3), (4, .int a4), (5, .int a5), (6, .int a6), (7, .int a7)] [] X Y) (e114 : ∀ (a1 : Int32) (a2 : Int32) (a3 : Int32) (a4 : Int32) (a5 : Int32) (a6 : Int32) (a7 : Int32) (X : XT) (Y : YT), I114 a1 a2 a3 a4 a5 a6 a7 X Y → V Γ 114 [(0, .ref 48), (1, .int a1), (2, .int a2), (3, .int a3), (4, .int a4), (5, .int a5), (6, .int a6), (7, .int a7)] [] X Y) (e115 : ∀ (a1 : Int32) (a2 : Int32) (a3 : Int32) (a4 : Int32) (a5 : Int32) (a6 : Int32) (a7 : Int32) (t0 : Int32) (X : XT) (Y : YT), I115 a1 a2 a3 a4 a5 a6 a7 t0 X Y → V Γ 115 [(0, .ref 48), (1, .int a1), (2, .int a2), (3, .int a3), (4, .int a4), (5, .int a5), (6, .int a6), (7, .int a7)] [.int t0] X Y) {p0 : Int32} {p1 : Int32} {X : XT} {Y : YT} (h : BX10_twinsAgree_s I18 I50 I87 I110 I114 I115 Q p0 p1 X Y) : V Γ 0 [(0, .ref 48), (1, .int p0), (2, .int p1)] [] X Y := by
  refine v_aload_n O dX10_twinsAgree_0 rfl 0 rfl ?_
  refine v_get O dX10_twinsAgree_1 fo_X10_52 sh_48 rfl rfl ?_
  refine v_aload_n O dX10_twinsAgree_4 rfl 0 rfl ?_
  refine v_get O dX10_twinsAgree_5 fo_X10_83 sh_48 rfl rfl ?_
  refine v_iload_n O dX10_twinsAgree_8 rfl 1 rfl ?_
  refine v_iald O dX10_twinsAgree_9 sh_72 h.1 ?_
  refine v_iald O dX10_twinsAgree_10 sh_63 h.2.1 ?_
  refine v_topi (fun w1 hw2 => ?_)
  refine v_istore_n (lv' := [(3, .int w1), (0, .ref 48), (1, .int p0), (2, .int p1)]) O dX10_twinsAgree_11 rfl (by decide) rfl ?_
  refine v_iconst O dX10_twinsAgree_12 kc_1 ?_
  refine v_istore (lv' := [(4, .int 1), (3, .int w1), (0, .ref 48), (1, .int p0), (2, .int p1)]) O dX10_twinsAgree_13 (by decide) rfl ?_
  refine v_iconst O dX10_twinsAgree_15 kc_0 ?_
  refine v_istore (lv' := [(5, .int 0), (4, .int 1), (3, .int w1), (0, .ref 48), (1, .int p0), (2, .int p1)]) O dX10_twinsAgree_16 (by decide) rfl ?_
  exact v_loc [3, 4, 5, 2, 1, 0] rfl (e18 p0 p1 w1 1 0 X Y (h.2.2 w1 hw2))
set_option maxRecDepth 100000 in
theorem mX10_twinsAgree {Γ : Cxt} {p0 : Int32} {p1 : Int32} {X : XT} {Y : YT} {Q : Int32 → XT → YT → Prop} (h : PX10_twinsAgree p0 p1 X Y Q) : MT Γ yX10_twinsAgree (.code yX10_twinsAgree cX10_twinsAgree 9 (some .boolean) :: wl) { frames := 0, cells := 0, slots := 0, locals := 0 } [.ref 48, .int p0, .int p1] X Y (qI Q) :=
  mt_of (by decide) (Nat.le_of_ble_eq_true rfl) (fun Γ _ O r => kX10_twinsAgree_s O r (fun _ _ _ _ _ _ _ g => g) (fun _ _ _ _ _ _ _ _ _ g => g) (fun _ _ _ _ _ _ _ _ _ g => g) (fun _ _ _ _ _ _ _ _ _ g => g) (fun _ _ _ _ _ _ _ _ _ g => g) (fun _ _ _ _ _ _ _ _ _ _ g => g) (h (fun a1 a2 a3 a4 a5 X Y => V Γ 18 [(0, .ref 48), (1, .int a1), (2, .int a2), (3, .int a3), (4, .int a4), (5, .int a5)] [] X Y) (fun a1 a2 a3 a4 a5 a6 a7 X Y => V Γ 50 [(0, .ref 48), (1, .int a1), (2, .int a2), (3, .int a3), (4, .int a4), (5, .int a5), (6, .int a6), (7, .int a7)] [] X Y) (fun a1 a2 a3 a4 a5 a6 a7 X Y => V Γ 87 [(0, .ref 48), (1, .int a1), (2, .int a2), (3, .int a3), (4, .int a4), (5, .int a5), (6, .int a6), (7, .int a7)] [] X Y) (fun a1 a2 a3 a4 a5 a6 a7 X Y => V Γ 110 [(0, .ref 48), (1, .int a1), (2, .int a2), (3, .int a3), (4, .int a4), (5, .int a5), (6, .int a6), (7, .int a7)] [] X Y) (fun a1 a2 a3 a4 a5 a6 a7 X Y => V Γ 114 [(0, .ref 48), (1, .int a1), (2, .int a2), (3, .int a3), (4, .int a4), (5, .int a5), (6, .int a6), (7, .int a7)] [] X Y) (fun a1 a2 a3 a4 a5 a6 a7 t0 X Y => V Γ 115 [(0, .ref 48), (1, .int a1), (2, .int a2), (3, .int a3), (4, .int a4), (5, .int a5), (6, .int a6), (7, .int a7)] [.int t0] X Y) (fun _ _ _ _ _ _ _ g => kX10_twinsAgree_18 O r (fun _ _ _ _ _ _ _ g => g) (fun _ _ _ _ _ _ _ _ _ g => g) (fun _ _ _ _ _ _ _ _ _ g => g) (fun _ _ _ _ _ _ _ _ _ g => g) (fun _ _ _ _ _ _ _ _ _ g => g) (fun _ _ _ _ _ _ _ _ _ _ g => g) g) (fun _ _ _ _ _ _ _ _ _ g => kX10_twinsAgree_50 O r (fun _ _ _ _ _ _ _ g => g) (fun _ _ _ _ _ _ _ _ _ g => g) (fun _ _ _ _ _ _ _ _ _ g => g) (fun _ _ _ _ _ _ _ _ _ g => g) (fun _ _ _ _ _ _ _ _ _ g => g) (fun _ _ _ _ _ _ _ _ _ _ g => g) g) (fun _ _ _ _ _ _ _ _ _ g => kX10_twinsAgree_87 O r (fun _ _ _ _ _ _ _ g => g) (fun _ _ _ _ _ _ _ _ _ g => g) (fun _ _ _ _ _ _ _ _ _ g => g) (fun _ _ _ _ _ _ _ _ _ g => g) (fun _ _ _ _ _ _ _ _ _ g => g) (fun _ _ _ _ _ _ _ _ _ _ g => g) g) (fun _ _ _ _ _ _ _ _ _ g => kX10_twinsAgree_110 O r (fun _ _ _ _ _ _ _ g => g) (fun _ _ _ _ _ _ _ _ _ g => g) (fun _ _ _ _ _ _ _ _ _ g => g) (fun _ _ _ _ _ _ _ _ _ g => g) (fun _ _ _ _ _ _ _ _ _ g => g) (fun _ _ _ _ _ _ _ _ _ _ g => g) g) (fun _ _ _ _ _ _ _ _ _ g => kX10_twinsAgree_114 O r (fun _ _ _ _ _ _ _ g => g) (fun _ _ _ _ _ _ _ _ _ g => g) (fun _ _ _ _ _ _ _ _ _ g => g) (fun _ _ _ _ _ _ _ _ _ g => g) (fun _ _ _ _ _ _ _ _ _ g => g) (fun _ _ _ _ _ _ _ _ _ _ g => g) g) (fun _ _ _ _ _ _ _ _ _ _ g => kX10_twinsAgree_115 O r (fun _ _ _ _ _ _ _ g => g) (fun _ _ _ _ _ _ _ _ _ g => g) (fun _ _ _ _ _ _ _ _ _ g => g) (fun _ _ _ _ _ _ _ _ _ g => g) (fun _ _ _ _ _ _ _ _ _ g => g) (fun _ _ _ _ _ _ _ _ _ _ g => g) g)))
