theorem dX9_page_0 : decode cX9_page 0 = .ok (.aload_n 0, 1) := by decide +kernel
theorem dX9_page_1 : decode cX9_page 1 = .ok (.getfield 26, 3) := by decide +kernel
theorem dX9_page_4 : decode cX9_page 4 = .ok (.getfield 133, 3) := by decide +kernel
theorem dX9_page_7 : decode cX9_page 7 = .ok (.bipush 8, 2) := by decide +kernel
theorem dX9_page_9 : decode cX9_page 9 = .ok (.if_icmp .lt 7, 3) := by decide +kernel
theorem dX9_page_12 : decode cX9_page 12 = .ok (.sipush (-1004), 3) := by decide +kernel
theorem dX9_page_15 : decode cX9_page 15 = .ok (.ireturn, 1) := by decide +kernel
theorem dX9_page_16 : decode cX9_page 16 = .ok (.aload_n 0, 1) := by decide +kernel
theorem dX9_page_17 : decode cX9_page 17 = .ok (.getfield 35, 3) := by decide +kernel
theorem dX9_page_20 : decode cX9_page 20 = .ok (.aload_n 0, 1) := by decide +kernel
theorem dX9_page_21 : decode cX9_page 21 = .ok (.getfield 26, 3) := by decide +kernel
theorem dX9_page_24 : decode cX9_page 24 = .ok (.getfield 137, 3) := by decide +kernel
theorem dX9_page_27 : decode cX9_page 27 = .ok (.invokevirtual 151, 3) := by decide +kernel
theorem dX9_page_30 : decode cX9_page 30 = .ok (.aload_n 0, 1) := by decide +kernel
theorem dX9_page_31 : decode cX9_page 31 = .ok (.getfield 12, 3) := by decide +kernel
theorem dX9_page_34 : decode cX9_page 34 = .ok (.iconst 0, 1) := by decide +kernel
theorem dX9_page_35 : decode cX9_page 35 = .ok (.putfield 89, 3) := by decide +kernel
theorem dX9_page_38 : decode cX9_page 38 = .ok (.aload_n 0, 1) := by decide +kernel
theorem dX9_page_39 : decode cX9_page 39 = .ok (.aload_n 0, 1) := by decide +kernel
theorem dX9_page_40 : decode cX9_page 40 = .ok (.getfield 35, 3) := by decide +kernel
theorem dX9_page_43 : decode cX9_page 43 = .ok (.getfield 154, 3) := by decide +kernel
theorem dX9_page_46 : decode cX9_page 46 = .ok (.putfield 78, 3) := by decide +kernel
theorem dX9_page_49 : decode cX9_page 49 = .ok (.aload_n 0, 1) := by decide +kernel
theorem dX9_page_50 : decode cX9_page 50 = .ok (.getfield 35, 3) := by decide +kernel
theorem dX9_page_53 : decode cX9_page 53 = .ok (.getfield 155, 3) := by decide +kernel
theorem dX9_page_56 : decode cX9_page 56 = .ok (.ifCond .eq 14, 3) := by decide +kernel
theorem dX9_page_59 : decode cX9_page 59 = .ok (.bipush (-10), 2) := by decide +kernel
theorem dX9_page_61 : decode cX9_page 61 = .ok (.aload_n 0, 1) := by decide +kernel
theorem dX9_page_62 : decode cX9_page 62 = .ok (.getfield 35, 3) := by decide +kernel
theorem dX9_page_65 : decode cX9_page 65 = .ok (.getfield 155, 3) := by decide +kernel
theorem dX9_page_68 : decode cX9_page 68 = .ok (.isub, 1) := by decide +kernel
theorem dX9_page_69 : decode cX9_page 69 = .ok (.ireturn, 1) := by decide +kernel
theorem dX9_page_70 : decode cX9_page 70 = .ok (.aload_n 0, 1) := by decide +kernel
theorem dX9_page_71 : decode cX9_page 71 = .ok (.getfield 26, 3) := by decide +kernel
theorem dX9_page_74 : decode cX9_page 74 = .ok (.aload_n 0, 1) := by decide +kernel
theorem dX9_page_75 : decode cX9_page 75 = .ok (.getfield 35, 3) := by decide +kernel
theorem dX9_page_78 : decode cX9_page 78 = .ok (.invokevirtual 158, 3) := by decide +kernel
theorem dX9_page_81 : decode cX9_page 81 = .ok (.aload_n 0, 1) := by decide +kernel
theorem dX9_page_82 : decode cX9_page 82 = .ok (.getfield 26, 3) := by decide +kernel
theorem dX9_page_85 : decode cX9_page 85 = .ok (.getfield 133, 3) := by decide +kernel
theorem dX9_page_88 : decode cX9_page 88 = .ok (.iconst 1, 1) := by decide +kernel
theorem dX9_page_89 : decode cX9_page 89 = .ok (.isub, 1) := by decide +kernel
theorem dX9_page_90 : decode cX9_page 90 = .ok (.ireturn, 1) := by decide +kernel
def BX9_page_s (Q : Int32 → XT → YT → Prop) (X : XT) (Y : YT) : Prop :=
  (((X 13 10) < 8 → PX2_parse (X 13 13) X Y (fun X3 Y4 => ∀ X6 : XT, X6 = sX (sX X3 1 1 0) 0 10 ((sX X3 1 1 0) 24 7) → (((X6 24 6) = 0 → PX3_add X6 Y4 (fun X10 Y11 => Q ((X10 13 10) - 1) X10 Y11)) ∧ (¬ (X6 24 6) = 0 → Q ((-10) - (X6 24 6)) X6 Y4)))) ∧ (¬ (X 13 10) < 8 → Q (-1004) X Y))
def PX9_page (X : XT) (Y : YT) (Q : Int32 → XT → YT → Prop) : Prop :=  BX9_page_s Q X Y
set_option maxHeartbeats 4000000 in
set_option maxRecDepth 100000 in
theorem kX9_page_s {Γ : Cxt} {Q : Int32 → XT → YT → Prop} (O : Ok Γ RX9 cX9_page 1 { frames := 7, cells := 0, slots := 0, locals := 155 }) (r : Ret Γ (some .int) (qI Q)) {X : XT} {Y : YT} (h : BX9_page_s Q X Y) : V Γ 0 [(0, .ref 0)] [] X Y := by
  refine v_aload_n O dX9_page_0 rfl 0 rfl ?_
  refine v_get O dX9_page_1 fo_X9_26 sh_0 rfl rfl ?_
  refine v_get O dX9_page_4 fo_X9_133 sh_13 rfl rfl ?_
  refine v_bipush O dX9_page_7 kb_8 ?_
  refine v_icmp_lt (tgt := 16) O dX9_page_9 (by decide) (fun g1 => ?_) (fun g1 => ?_)
  · refine v_aload_n O dX9_page_16 rfl 0 rfl ?_
    refine v_get O dX9_page_17 fo_X9_35 sh_0 rfl rfl ?_
    refine v_aload_n O dX9_page_20 rfl 0 rfl ?_
    refine v_get O dX9_page_21 fo_X9_26 sh_0 rfl rfl ?_
    refine v_get O dX9_page_24 fo_X9_137 sh_13 rfl rfl ?_
    refine v_callV (rm' := { frames := 6, cells := 0, slots := 0, locals := 132 }) (As := [.int (X 13 13)]) (st := []) O dX9_page_27 ci_X2_parse ml_X9_151 mi_X2_parse sh_24 rfl ⟨rfl, rfl, (by decide), (by decide)⟩ rfl (Nat.le_of_ble_eq_true rfl) rfl (mX2_parse (h.1 g1)) (k_V (fun X3 Y4 h5 => ?_))
    refine v_aload_n O dX9_page_30 rfl 0 rfl ?_
    refine v_get O dX9_page_31 fo_X9_12 sh_0 rfl rfl ?_
    refine v_iconst O dX9_page_34 kc_0 ?_
    refine v_putI O dX9_page_35 fo_X9_89 fp_8_1 sh_1 rfl rfl rfl ?_
    refine v_aload_n O dX9_page_38 rfl 0 rfl ?_
    refine v_aload_n O dX9_page_39 rfl 0 rfl ?_
    refine v_get O dX9_page_40 fo_X9_35 sh_0 rfl rfl ?_
    refine v_get O dX9_page_43 fo_X9_154 sh_24 rfl rfl ?_
    refine v_putI O dX9_page_46 fo_X9_78 fp_9_10 sh_0 rfl rfl rfl ?_
    refine v_nmX (fun X6 hX7 => ?_)
    refine v_aload_n O dX9_page_49 rfl 0 rfl ?_
    refine v_get O dX9_page_50 fo_X9_35 sh_0 rfl rfl ?_
    refine v_get O dX9_page_53 fo_X9_155 sh_24 rfl rfl ?_
    refine v_if_eq (tgt := 70) O dX9_page_56 (by decide) (fun g8 => ?_) (fun g8 => ?_)
    · refine v_aload_n O dX9_page_70 rfl 0 rfl ?_
      refine v_get O dX9_page_71 fo_X9_26 sh_0 rfl rfl ?_
      refine v_aload_n O dX9_page_74 rfl 0 rfl ?_
      refine v_get O dX9_page_75 fo_X9_35 sh_0 rfl rfl ?_
      refine v_callV (rm' := { frames := 1, cells := 0, slots := 0, locals := 24 }) (As := [.ref 24]) (st := []) O dX9_page_78 ci_X3_add ml_X9_158 mi_X3_add sh_13 rfl ⟨rfl, rfl, (by decide), (by decide)⟩ rfl (Nat.le_of_ble_eq_true rfl) rfl (mX3_add ((h5 X6 hX7).1 g8)) (k_V (fun X10 Y11 h12 => ?_))
      refine v_aload_n O dX9_page_81 rfl 0 rfl ?_
      refine v_get O dX9_page_82 fo_X9_26 sh_0 rfl rfl ?_
      refine v_get O dX9_page_85 fo_X9_133 sh_13 rfl rfl ?_
      refine v_iconst O dX9_page_88 kc_1 ?_
      refine v_isub O dX9_page_89 ?_
      exact v_iret O r dX9_page_90 ⟨_, rfl, h12⟩
    · refine v_bipush O dX9_page_59 kb_m10 ?_
      refine v_aload_n O dX9_page_61 rfl 0 rfl ?_
      refine v_get O dX9_page_62 fo_X9_35 sh_0 rfl rfl ?_
      refine v_get O dX9_page_65 fo_X9_155 sh_24 rfl rfl ?_
      refine v_isub O dX9_page_68 ?_
      exact v_iret O r dX9_page_69 ⟨_, rfl, ((h5 X6 hX7).2 g8)⟩
  · refine v_sipush O dX9_page_12 ks_m1004 ?_
    exact v_iret O r dX9_page_15 ⟨_, rfl, (h.2 g1)⟩
set_option maxRecDepth 100000 in
theorem mX9_page {Γ : Cxt} {X : XT} {Y : YT} {Q : Int32 → XT → YT → Prop} (h : PX9_page X Y Q) : MT Γ yX9_page (.code yX9_page cX9_page 1 (some .int) :: wl) { frames := 7, cells := 0, slots := 0, locals := 155 } [.ref 0] X Y (qI Q) :=
  mt_of (by decide) (Nat.le_of_ble_eq_true rfl) (fun Γ _ O r => kX9_page_s O r  (h ))
theorem dX9_fault_0 : decode cX9_fault 0 = .ok (.aload_n 0, 1) := by decide +kernel
theorem dX9_fault_1 : decode cX9_fault 1 = .ok (.getfield 78, 3) := by decide +kernel
theorem dX9_fault_4 : decode cX9_fault 4 = .ok (.ireturn, 1) := by decide +kernel
def BX9_fault_s (Q : Int32 → XT → YT → Prop) (X : XT) (Y : YT) : Prop :=
  Q (X 0 10) X Y
def PX9_fault (X : XT) (Y : YT) (Q : Int32 → XT → YT → Prop) : Prop :=  BX9_fault_s Q X Y
set_option maxHeartbeats 4000000 in
set_option maxRecDepth 100000 in
theorem kX9_fault_s {Γ : Cxt} {Q : Int32 → XT → YT → Prop} (O : Ok Γ RX9 cX9_fault 1 { frames := 0, cells := 0, slots := 0, locals := 0 }) (r : Ret Γ (some .int) (qI Q)) {X : XT} {Y : YT} (h : BX9_fault_s Q X Y) : V Γ 0 [(0, .ref 0)] [] X Y := by
  refine v_aload_n O dX9_fault_0 rfl 0 rfl ?_
  refine v_get O dX9_fault_1 fo_X9_78 sh_0 rfl rfl ?_
  exact v_iret O r dX9_fault_4 ⟨_, rfl, h⟩
set_option maxRecDepth 100000 in
theorem mX9_fault {Γ : Cxt} {X : XT} {Y : YT} {Q : Int32 → XT → YT → Prop} (h : PX9_fault X Y Q) : MT Γ yX9_fault (.code yX9_fault cX9_fault 1 (some .int) :: wl) { frames := 0, cells := 0, slots := 0, locals := 0 } [.ref 0] X Y (qI Q) :=
  mt_of (by decide) (Nat.le_of_ble_eq_true rfl) (fun Γ _ O r => kX9_fault_s O r  (h ))
theorem dX9_place_0 : decode cX9_place 0 = .ok (.iload_n 1, 1) := by decide +kernel
theorem dX9_place_1 : decode cX9_place 1 = .ok (.iconst 0, 1) := by decide +kernel
theorem dX9_place_2 : decode cX9_place 2 = .ok (.aload_n 0, 1) := by decide +kernel
theorem dX9_place_3 : decode cX9_place 3 = .ok (.getfield 26, 3) := by decide +kernel
theorem dX9_place_6 : decode cX9_place 6 = .ok (.getfield 134, 3) := by decide +kernel
theorem dX9_place_9 : decode cX9_place 9 = .ok (.iconst 1, 1) := by decide +kernel
theorem dX9_place_10 : decode cX9_place 10 = .ok (.isub, 1) := by decide +kernel
theorem dX9_place_11 : decode cX9_place 11 = .ok (.invokestatic 81, 3) := by decide +kernel
theorem dX9_place_14 : decode cX9_place 14 = .ok (.ifCond .ne 7, 3) := by decide +kernel
theorem dX9_place_17 : decode cX9_place 17 = .ok (.sipush (-1001), 3) := by decide +kernel
theorem dX9_place_20 : decode cX9_place 20 = .ok (.ireturn, 1) := by decide +kernel
theorem dX9_place_21 : decode cX9_place 21 = .ok (.iload_n 2, 1) := by decide +kernel
theorem dX9_place_22 : decode cX9_place 22 = .ok (.tableswitch 83 0 4 #[34, 44, 54, 64, 74], 34) := by decide +kernel
theorem dX9_place_56 : decode cX9_place 56 = .ok (.aload_n 0, 1) := by decide +kernel
theorem dX9_place_57 : decode cX9_place 57 = .ok (.getfield 26, 3) := by decide +kernel
theorem dX9_place_60 : decode cX9_place 60 = .ok (.getfield 162, 3) := by decide +kernel
theorem dX9_place_63 : decode cX9_place 63 = .ok (.iload_n 1, 1) := by decide +kernel
theorem dX9_place_64 : decode cX9_place 64 = .ok (.iaload, 1) := by decide +kernel
theorem dX9_place_65 : decode cX9_place 65 = .ok (.ireturn, 1) := by decide +kernel
theorem dX9_place_66 : decode cX9_place 66 = .ok (.aload_n 0, 1) := by decide +kernel
theorem dX9_place_67 : decode cX9_place 67 = .ok (.getfield 26, 3) := by decide +kernel
theorem dX9_place_70 : decode cX9_place 70 = .ok (.getfield 165, 3) := by decide +kernel
theorem dX9_place_73 : decode cX9_place 73 = .ok (.iload_n 1, 1) := by decide +kernel
theorem dX9_place_74 : decode cX9_place 74 = .ok (.iaload, 1) := by decide +kernel
theorem dX9_place_75 : decode cX9_place 75 = .ok (.ireturn, 1) := by decide +kernel
theorem dX9_place_76 : decode cX9_place 76 = .ok (.aload_n 0, 1) := by decide +kernel
theorem dX9_place_77 : decode cX9_place 77 = .ok (.getfield 26, 3) := by decide +kernel
theorem dX9_place_80 : decode cX9_place 80 = .ok (.getfield 168, 3) := by decide +kernel
theorem dX9_place_83 : decode cX9_place 83 = .ok (.iload_n 1, 1) := by decide +kernel
theorem dX9_place_84 : decode cX9_place 84 = .ok (.iaload, 1) := by decide +kernel
theorem dX9_place_85 : decode cX9_place 85 = .ok (.ireturn, 1) := by decide +kernel
theorem dX9_place_86 : decode cX9_place 86 = .ok (.aload_n 0, 1) := by decide +kernel
theorem dX9_place_87 : decode cX9_place 87 = .ok (.getfield 26, 3) := by decide +kernel
theorem dX9_place_90 : decode cX9_place 90 = .ok (.getfield 171, 3) := by decide +kernel
theorem dX9_place_93 : decode cX9_place 93 = .ok (.iload_n 1, 1) := by decide +kernel
theorem dX9_place_94 : decode cX9_place 94 = .ok (.iaload, 1) := by decide +kernel
theorem dX9_place_95 : decode cX9_place 95 = .ok (.ireturn, 1) := by decide +kernel
theorem dX9_place_96 : decode cX9_place 96 = .ok (.aload_n 0, 1) := by decide +kernel
theorem dX9_place_97 : decode cX9_place 97 = .ok (.getfield 58, 3) := by decide +kernel
theorem dX9_place_100 : decode cX9_place 100 = .ok (.iload_n 1, 1) := by decide +kernel
theorem dX9_place_101 : decode cX9_place 101 = .ok (.invokevirtual 174, 3) := by decide +kernel
theorem dX9_place_104 : decode cX9_place 104 = .ok (.ireturn, 1) := by decide +kernel
theorem dX9_place_105 : decode cX9_place 105 = .ok (.sipush (-1002), 3) := by decide +kernel
theorem dX9_place_108 : decode cX9_place 108 = .ok (.ireturn, 1) := by decide +kernel
def BX9_place_s (Q : Int32 → XT → YT → Prop) (p0 : Int32) (p1 : Int32) (X : XT) (Y : YT) : Prop :=
  PX9_within p0 0 ((X 13 11) - 1) X Y (fun r1 X2 Y3 => ((¬ r1 = 0 → ((p1.toInt < 0 ∨ 4 < p1.toInt → Q (-1002) X2 Y3) ∧ (p1 = 0 → vp_in p0 32 ∧ Q (X2 16 p0.toNatClampNeg) X2 Y3) ∧ (p1 = 1 → vp_in p0 32 ∧ Q (X2 17 p0.toNatClampNeg) X2 Y3) ∧ (p1 = 2 → vp_in p0 32 ∧ Q (X2 18 p0.toNatClampNeg) X2 Y3) ∧ (p1 = 3 → vp_in p0 32 ∧ Q (X2 20 p0.toNatClampNeg) X2 Y3) ∧ (p1 = 4 → PX0_widthAt p0 X2 Y3 (fun r7 X8 Y9 => Q r7 X8 Y9)))) ∧ (r1 = 0 → Q (-1001) X2 Y3)))
def PX9_place (p0 : Int32) (p1 : Int32) (X : XT) (Y : YT) (Q : Int32 → XT → YT → Prop) : Prop :=  BX9_place_s Q p0 p1 X Y
set_option maxHeartbeats 4000000 in
set_option maxRecDepth 100000 in
theorem kX9_place_s {Γ : Cxt} {Q : Int32 → XT → YT → Prop} (O : Ok Γ RX9 cX9_place 3 { frames := 2, cells := 0, slots := 0, locals := 44 }) (r : Ret Γ (some .int) (qI Q)) {p0 : Int32} {p1 : Int32} {X : XT} {Y : YT} (h : BX9_place_s Q p0 p1 X Y) : V Γ 0 [(0, .ref 0), (1, .int p0), (2, .int p1)] [] X Y := by
  refine v_iload_n O dX9_place_0 rfl 1 rfl ?_
  refine v_iconst O dX9_place_1 kc_0 ?_
  refine v_aload_n O dX9_place_2 rfl 0 rfl ?_
  refine v_get O dX9_place_3 fo_X9_26 sh_0 rfl rfl ?_
  refine v_get O dX9_place_6 fo_X9_134 sh_13 rfl rfl ?_
  refine v_iconst O dX9_place_9 kc_1 ?_
  refine v_isub O dX9_place_10 ?_
  refine v_callS (rm' := { frames := 0, cells := 0, slots := 0, locals := 0 }) (As := [.int p0, .int 0, .int ((X 13 11) - 1)]) (st := []) O dX9_place_11 ci_X9_within ml_X9_81 ms_X9_within ⟨rfl, rfl, (by decide), (by decide)⟩ rfl (Nat.le_of_ble_eq_true rfl) rfl (mX9_within h) (k_I (fun r1 X2 Y3 h4 => ?_))
  refine v_if_ne (tgt := 21) O dX9_place_14 (by decide) (fun g5 => ?_) (fun g5 => ?_)
  · refine v_iload_n O dX9_place_21 rfl 2 rfl ?_
    refine v_tsw (tg := [56, 66, 76, 86, 96]) (dt := 105) O dX9_place_22 (by decide) (by decide) (by decide) (by decide) (fun g6 => ?_) (fun j t hj g6 => ?_)
    · refine v_sipush O dX9_place_105 ks_m1002 ?_
      exact v_iret O r dX9_place_108 ⟨_, rfl, ((h4.1 g5).1 g6)⟩
    · match j, hj with
      | 0, hj =>
        cases hj
        refine v_aload_n O dX9_place_56 rfl 0 rfl ?_
        refine v_get O dX9_place_57 fo_X9_26 sh_0 rfl rfl ?_
        refine v_get O dX9_place_60 fo_X9_162 sh_13 rfl rfl ?_
        refine v_iload_n O dX9_place_63 rfl 1 rfl ?_
        refine v_iald O dX9_place_64 sh_16 ((h4.1 g5).2.1 g6).1 ?_
        exact v_iret O r dX9_place_65 ⟨_, rfl, ((h4.1 g5).2.1 g6).2⟩
      | 1, hj =>
        cases hj
        refine v_aload_n O dX9_place_66 rfl 0 rfl ?_
        refine v_get O dX9_place_67 fo_X9_26 sh_0 rfl rfl ?_
        refine v_get O dX9_place_70 fo_X9_165 sh_13 rfl rfl ?_
        refine v_iload_n O dX9_place_73 rfl 1 rfl ?_
        refine v_iald O dX9_place_74 sh_17 ((h4.1 g5).2.2.1 g6).1 ?_
        exact v_iret O r dX9_place_75 ⟨_, rfl, ((h4.1 g5).2.2.1 g6).2⟩
      | 2, hj =>
        cases hj
        refine v_aload_n O dX9_place_76 rfl 0 rfl ?_
        refine v_get O dX9_place_77 fo_X9_26 sh_0 rfl rfl ?_
        refine v_get O dX9_place_80 fo_X9_168 sh_13 rfl rfl ?_
        refine v_iload_n O dX9_place_83 rfl 1 rfl ?_
        refine v_iald O dX9_place_84 sh_18 ((h4.1 g5).2.2.2.1 g6).1 ?_
        exact v_iret O r dX9_place_85 ⟨_, rfl, ((h4.1 g5).2.2.2.1 g6).2⟩
      | 3, hj =>
        cases hj
        refine v_aload_n O dX9_place_86 rfl 0 rfl ?_
        refine v_get O dX9_place_87 fo_X9_26 sh_0 rfl rfl ?_
        refine v_get O dX9_place_90 fo_X9_171 sh_13 rfl rfl ?_
        refine v_iload_n O dX9_place_93 rfl 1 rfl ?_
        refine v_iald O dX9_place_94 sh_20 ((h4.1 g5).2.2.2.2.1 g6).1 ?_
        exact v_iret O r dX9_place_95 ⟨_, rfl, ((h4.1 g5).2.2.2.2.1 g6).2⟩
      | 4, hj =>
        cases hj
        refine v_aload_n O dX9_place_96 rfl 0 rfl ?_
        refine v_get O dX9_place_97 fo_X9_58 sh_0 rfl rfl ?_
        refine v_iload_n O dX9_place_100 rfl 1 rfl ?_
        refine v_callV (rm' := { frames := 1, cells := 0, slots := 0, locals := 22 }) (As := [.int p0]) (st := []) O dX9_place_101 ci_X0_widthAt ml_X9_174 mi_X0_widthAt sh_35 rfl ⟨rfl, rfl, (by decide), (by decide)⟩ rfl (Nat.le_of_ble_eq_true rfl) rfl (mX0_widthAt ((h4.1 g5).2.2.2.2.2 g6)) (k_I (fun r7 X8 Y9 h10 => ?_))
        exact v_iret O r dX9_place_104 ⟨_, rfl, h10⟩
      | j + 5, hj => simp at hj
  · refine v_sipush O dX9_place_17 ks_m1001 ?_
    exact v_iret O r dX9_place_20 ⟨_, rfl, (h4.2 g5)⟩
set_option maxRecDepth 100000 in
theorem mX9_place {Γ : Cxt} {p0 : Int32} {p1 : Int32} {X : XT} {Y : YT} {Q : Int32 → XT → YT → Prop} (h : PX9_place p0 p1 X Y Q) : MT Γ yX9_place (.code yX9_place cX9_place 3 (some .int) :: wl) { frames := 2, cells := 0, slots := 0, locals := 44 } [.ref 0, .int p0, .int p1] X Y (qI Q) :=
  mt_of (by decide) (Nat.le_of_ble_eq_true rfl) (fun Γ _ O r => kX9_place_s O r  (h ))
theorem dX9_twins_0 : decode cX9_twins 0 = .ok (.aload_n 0, 1) := by decide +kernel
theorem dX9_twins_1 : decode cX9_twins 1 = .ok (.getfield 26, 3) := by decide +kernel
theorem dX9_twins_4 : decode cX9_twins 4 = .ok (.iload_n 1, 1) := by decide +kernel
theorem dX9_twins_5 : decode cX9_twins 5 = .ok (.invokevirtual 177, 3) := by decide +kernel
theorem dX9_twins_8 : decode cX9_twins 8 = .ok (.ifCond .eq 19, 3) := by decide +kernel
theorem dX9_twins_11 : decode cX9_twins 11 = .ok (.aload_n 0, 1) := by decide +kernel
theorem dX9_twins_12 : decode cX9_twins 12 = .ok (.getfield 26, 3) := by decide +kernel
theorem dX9_twins_15 : decode cX9_twins 15 = .ok (.iload_n 2, 1) := by decide +kernel
theorem dX9_twins_16 : decode cX9_twins 16 = .ok (.invokevirtual 177, 3) := by decide +kernel
theorem dX9_twins_19 : decode cX9_twins 19 = .ok (.ifCond .eq 8, 3) := by decide +kernel
theorem dX9_twins_22 : decode cX9_twins 22 = .ok (.iload_n 1, 1) := by decide +kernel
theorem dX9_twins_23 : decode cX9_twins 23 = .ok (.iload_n 2, 1) := by decide +kernel
theorem dX9_twins_24 : decode cX9_twins 24 = .ok (.if_icmp .ne 7, 3) := by decide +kernel
theorem dX9_twins_27 : decode cX9_twins 27 = .ok (.sipush (-1001), 3) := by decide +kernel
theorem dX9_twins_30 : decode cX9_twins 30 = .ok (.ireturn, 1) := by decide +kernel
theorem dX9_twins_31 : decode cX9_twins 31 = .ok (.aload_n 0, 1) := by decide +kernel
theorem dX9_twins_32 : decode cX9_twins 32 = .ok (.getfield 26, 3) := by decide +kernel
theorem dX9_twins_35 : decode cX9_twins 35 = .ok (.getfield 180, 3) := by decide +kernel
theorem dX9_twins_38 : decode cX9_twins 38 = .ok (.iload_n 1, 1) := by decide +kernel
theorem dX9_twins_39 : decode cX9_twins 39 = .ok (.iaload, 1) := by decide +kernel
theorem dX9_twins_40 : decode cX9_twins 40 = .ok (.iload_n 2, 1) := by decide +kernel
theorem dX9_twins_41 : decode cX9_twins 41 = .ok (.invokestatic 183, 3) := by decide +kernel
theorem dX9_twins_44 : decode cX9_twins 44 = .ok (.ifCond .eq 7, 3) := by decide +kernel
theorem dX9_twins_47 : decode cX9_twins 47 = .ok (.sipush (-1003), 3) := by decide +kernel
theorem dX9_twins_50 : decode cX9_twins 50 = .ok (.ireturn, 1) := by decide +kernel
theorem dX9_twins_51 : decode cX9_twins 51 = .ok (.aload_n 0, 1) := by decide +kernel
theorem dX9_twins_52 : decode cX9_twins 52 = .ok (.getfield 26, 3) := by decide +kernel
theorem dX9_twins_55 : decode cX9_twins 55 = .ok (.getfield 140, 3) := by decide +kernel
theorem dX9_twins_58 : decode cX9_twins 58 = .ok (.bipush 10, 2) := by decide +kernel
theorem dX9_twins_60 : decode cX9_twins 60 = .ok (.if_icmp .lt 7, 3) := by decide +kernel
theorem dX9_twins_63 : decode cX9_twins 63 = .ok (.sipush (-1004), 3) := by decide +kernel
theorem dX9_twins_66 : decode cX9_twins 66 = .ok (.ireturn, 1) := by decide +kernel
theorem dX9_twins_67 : decode cX9_twins 67 = .ok (.aload_n 0, 1) := by decide +kernel
theorem dX9_twins_68 : decode cX9_twins 68 = .ok (.getfield 26, 3) := by decide +kernel
theorem dX9_twins_71 : decode cX9_twins 71 = .ok (.iload_n 1, 1) := by decide +kernel
theorem dX9_twins_72 : decode cX9_twins 72 = .ok (.iload_n 2, 1) := by decide +kernel
theorem dX9_twins_73 : decode cX9_twins 73 = .ok (.invokevirtual 187, 3) := by decide +kernel
theorem dX9_twins_76 : decode cX9_twins 76 = .ok (.aload_n 0, 1) := by decide +kernel
theorem dX9_twins_77 : decode cX9_twins 77 = .ok (.getfield 26, 3) := by decide +kernel
theorem dX9_twins_80 : decode cX9_twins 80 = .ok (.getfield 140, 3) := by decide +kernel
theorem dX9_twins_83 : decode cX9_twins 83 = .ok (.ireturn, 1) := by decide +kernel
def BX9_twins_s (Q : Int32 → XT → YT → Prop) (p0 : Int32) (p1 : Int32) (X : XT) (Y : YT) : Prop :=
  PX3_isBar p0 X Y (fun r1 X2 Y3 => ((r1 = 0 → Q (-1001) X2 Y3) ∧ (¬ r1 = 0 → PX3_isBar p1 X2 Y3 (fun r6 X7 Y8 => ((r6 = 0 → Q (-1001) X7 Y8) ∧ (¬ r6 = 0 → ((¬ p0 = p1 → vp_in p0 10 ∧ PX9_has (X7 23 p0.toNatClampNeg) p1 X7 Y8 (fun r12 X13 Y14 => ((r12 = 0 → (((X13 13 14) < 10 → PX3_pair p0 p1 X13 Y14 (fun X19 Y20 => Q (X19 13 14) X19 Y20)) ∧ (¬ (X13 13 14) < 10 → Q (-1004) X13 Y14))) ∧ (¬ r12 = 0 → Q (-1003) X13 Y14)))) ∧ (p0 = p1 → Q (-1001) X7 Y8))))))))
def PX9_twins (p0 : Int32) (p1 : Int32) (X : XT) (Y : YT) (Q : Int32 → XT → YT → Prop) : Prop :=  BX9_twins_s Q p0 p1 X Y
set_option maxHeartbeats 4000000 in
set_option maxRecDepth 100000 in
theorem kX9_twins_s {Γ : Cxt} {Q : Int32 → XT → YT → Prop} (O : Ok Γ RX9 cX9_twins 3 { frames := 2, cells := 0, slots := 0, locals := 43 }) (r : Ret Γ (some .int) (qI Q)) {p0 : Int32} {p1 : Int32} {X : XT} {Y : YT} (h : BX9_twins_s Q p0 p1 X Y) : V Γ 0 [(0, .ref 0), (1, .int p0), (2, .int p1)] [] X Y := by
  refine v_aload_n O dX9_twins_0 rfl 0 rfl ?_
  refine v_get O dX9_twins_1 fo_X9_26 sh_0 rfl rfl ?_
  refine v_iload_n O dX9_twins_4 rfl 1 rfl ?_
  refine v_callV (rm' := { frames := 1, cells := 0, slots := 0, locals := 22 }) (As := [.int p0]) (st := []) O dX9_twins_5 ci_X3_isBar ml_X9_177 mi_X3_isBar sh_13 rfl ⟨rfl, rfl, (by decide), (by decide)⟩ rfl (Nat.le_of_ble_eq_true rfl) rfl (mX3_isBar h) (k_I (fun r1 X2 Y3 h4 => ?_))
  refine v_if_eq (tgt := 27) O dX9_twins_8 (by decide) (fun g5 => ?_) (fun g5 => ?_)
  · refine v_sipush O dX9_twins_27 ks_m1001 ?_
    exact v_iret O r dX9_twins_30 ⟨_, rfl, (h4.1 g5)⟩
  · refine v_aload_n O dX9_twins_11 rfl 0 rfl ?_
    refine v_get O dX9_twins_12 fo_X9_26 sh_0 rfl rfl ?_
    refine v_iload_n O dX9_twins_15 rfl 2 rfl ?_
    refine v_callV (rm' := { frames := 1, cells := 0, slots := 0, locals := 22 }) (As := [.int p1]) (st := []) O dX9_twins_16 ci_X3_isBar ml_X9_177 mi_X3_isBar sh_13 rfl ⟨rfl, rfl, (by decide), (by decide)⟩ rfl (Nat.le_of_ble_eq_true rfl) rfl (mX3_isBar (h4.2 g5)) (k_I (fun r6 X7 Y8 h9 => ?_))
    refine v_if_eq (tgt := 27) O dX9_twins_19 (by decide) (fun g10 => ?_) (fun g10 => ?_)
    · refine v_sipush O dX9_twins_27 ks_m1001 ?_
      exact v_iret O r dX9_twins_30 ⟨_, rfl, (h9.1 g10)⟩
    · refine v_iload_n O dX9_twins_22 rfl 1 rfl ?_
      refine v_iload_n O dX9_twins_23 rfl 2 rfl ?_
      refine v_icmp_ne (tgt := 31) O dX9_twins_24 (by decide) (fun g11 => ?_) (fun g11 => ?_)
      · refine v_aload_n O dX9_twins_31 rfl 0 rfl ?_
        refine v_get O dX9_twins_32 fo_X9_26 sh_0 rfl rfl ?_
        refine v_get O dX9_twins_35 fo_X9_180 sh_13 rfl rfl ?_
        refine v_iload_n O dX9_twins_38 rfl 1 rfl ?_
        refine v_iald O dX9_twins_39 sh_23 ((h9.2 g10).1 g11).1 ?_
        refine v_iload_n O dX9_twins_40 rfl 2 rfl ?_
        refine v_callS (rm' := { frames := 0, cells := 0, slots := 0, locals := 0 }) (As := [.int (X7 23 p0.toNatClampNeg), .int p1]) (st := []) O dX9_twins_41 ci_X9_has ml_X9_183 ms_X9_has ⟨rfl, rfl, (by decide), (by decide)⟩ rfl (Nat.le_of_ble_eq_true rfl) rfl (mX9_has ((h9.2 g10).1 g11).2) (k_I (fun r12 X13 Y14 h15 => ?_))
        refine v_if_eq (tgt := 51) O dX9_twins_44 (by decide) (fun g16 => ?_) (fun g16 => ?_)
        · refine v_aload_n O dX9_twins_51 rfl 0 rfl ?_
          refine v_get O dX9_twins_52 fo_X9_26 sh_0 rfl rfl ?_
          refine v_get O dX9_twins_55 fo_X9_140 sh_13 rfl rfl ?_
          refine v_bipush O dX9_twins_58 kb_10 ?_
          refine v_icmp_lt (tgt := 67) O dX9_twins_60 (by decide) (fun g17 => ?_) (fun g17 => ?_)
          · refine v_aload_n O dX9_twins_67 rfl 0 rfl ?_
            refine v_get O dX9_twins_68 fo_X9_26 sh_0 rfl rfl ?_
            refine v_iload_n O dX9_twins_71 rfl 1 rfl ?_
            refine v_iload_n O dX9_twins_72 rfl 2 rfl ?_
            refine v_callV (rm' := { frames := 0, cells := 0, slots := 0, locals := 0 }) (As := [.int p0, .int p1]) (st := []) O dX9_twins_73 ci_X3_pair ml_X9_187 mi_X3_pair sh_13 rfl ⟨rfl, rfl, (by decide), (by decide)⟩ rfl (Nat.le_of_ble_eq_true rfl) rfl (mX3_pair ((h15.1 g16).1 g17)) (k_V (fun X19 Y20 h21 => ?_))
            refine v_aload_n O dX9_twins_76 rfl 0 rfl ?_
            refine v_get O dX9_twins_77 fo_X9_26 sh_0 rfl rfl ?_
            refine v_get O dX9_twins_80 fo_X9_140 sh_13 rfl rfl ?_
            exact v_iret O r dX9_twins_83 ⟨_, rfl, h21⟩
          · refine v_sipush O dX9_twins_63 ks_m1004 ?_
            exact v_iret O r dX9_twins_66 ⟨_, rfl, ((h15.1 g16).2 g17)⟩
        · refine v_sipush O dX9_twins_47 ks_m1003 ?_
          exact v_iret O r dX9_twins_50 ⟨_, rfl, (h15.2 g16)⟩
      · refine v_sipush O dX9_twins_27 ks_m1001 ?_
        exact v_iret O r dX9_twins_30 ⟨_, rfl, ((h9.2 g10).2 g11)⟩
set_option maxRecDepth 100000 in
theorem mX9_twins {Γ : Cxt} {p0 : Int32} {p1 : Int32} {X : XT} {Y : YT} {Q : Int32 → XT → YT → Prop} (h : PX9_twins p0 p1 X Y Q) : MT Γ yX9_twins (.code yX9_twins cX9_twins 3 (some .int) :: wl) { frames := 2, cells := 0, slots := 0, locals := 43 } [.ref 0, .int p0, .int p1] X Y (qI Q) :=
  mt_of (by decide) (Nat.le_of_ble_eq_true rfl) (fun Γ _ O r => kX9_twins_s O r  (h ))
theorem dX9_goThrough_0 : decode cX9_goThrough 0 = .ok (.aload_n 0, 1) := by decide +kernel
theorem dX9_goThrough_1 : decode cX9_goThrough 1 = .ok (.getfield 58, 3) := by decide +kernel
theorem dX9_goThrough_4 : decode cX9_goThrough 4 = .ok (.aload_n 0, 1) := by decide +kernel
theorem dX9_goThrough_5 : decode cX9_goThrough 5 = .ok (.getfield 71, 3) := by decide +kernel
theorem dX9_goThrough_8 : decode cX9_goThrough 8 = .ok (.invokevirtual 269, 3) := by decide +kernel
theorem dX9_goThrough_11 : decode cX9_goThrough 11 = .ok (.aload_n 0, 1) := by decide +kernel
theorem dX9_goThrough_12 : decode cX9_goThrough 12 = .ok (.getfield 58, 3) := by decide +kernel
theorem dX9_goThrough_15 : decode cX9_goThrough 15 = .ok (.aload_n 0, 1) := by decide +kernel
theorem dX9_goThrough_16 : decode cX9_goThrough 16 = .ok (.getfield 26, 3) := by decide +kernel
theorem dX9_goThrough_19 : decode cX9_goThrough 19 = .ok (.getfield 133, 3) := by decide +kernel
theorem dX9_goThrough_22 : decode cX9_goThrough 22 = .ok (.invokestatic 104, 3) := by decide +kernel
theorem dX9_goThrough_25 : decode cX9_goThrough 25 = .ok (.iconst 0, 1) := by decide +kernel
theorem dX9_goThrough_26 : decode cX9_goThrough 26 = .ok (.invokevirtual 286, 3) := by decide +kernel
theorem dX9_goThrough_29 : decode cX9_goThrough 29 = .ok (.iconst 0, 1) := by decide +kernel
theorem dX9_goThrough_30 : decode cX9_goThrough 30 = .ok (.istore_n 3, 1) := by decide +kernel
theorem dX9_goThrough_31 : decode cX9_goThrough 31 = .ok (.iload_n 3, 1) := by decide +kernel
theorem dX9_goThrough_32 : decode cX9_goThrough 32 = .ok (.aload_n 0, 1) := by decide +kernel
theorem dX9_goThrough_33 : decode cX9_goThrough 33 = .ok (.getfield 26, 3) := by decide +kernel
theorem dX9_goThrough_36 : decode cX9_goThrough 36 = .ok (.getfield 137, 3) := by decide +kernel
theorem dX9_goThrough_39 : decode cX9_goThrough 39 = .ok (.if_icmp .ge 30, 3) := by decide +kernel
theorem dX9_goThrough_42 : decode cX9_goThrough 42 = .ok (.aload_n 0, 1) := by decide +kernel
theorem dX9_goThrough_43 : decode cX9_goThrough 43 = .ok (.getfield 49, 3) := by decide +kernel
theorem dX9_goThrough_46 : decode cX9_goThrough 46 = .ok (.getfield 303, 3) := by decide +kernel
theorem dX9_goThrough_49 : decode cX9_goThrough 49 = .ok (.iload_n 3, 1) := by decide +kernel
theorem dX9_goThrough_50 : decode cX9_goThrough 50 = .ok (.dup2, 1) := by decide +kernel
theorem dX9_goThrough_51 : decode cX9_goThrough 51 = .ok (.iaload, 1) := by decide +kernel
theorem dX9_goThrough_52 : decode cX9_goThrough 52 = .ok (.aload_n 0, 1) := by decide +kernel
theorem dX9_goThrough_53 : decode cX9_goThrough 53 = .ok (.getfield 42, 3) := by decide +kernel
theorem dX9_goThrough_56 : decode cX9_goThrough 56 = .ok (.iload_n 1, 1) := by decide +kernel
theorem dX9_goThrough_57 : decode cX9_goThrough 57 = .ok (.iload_n 3, 1) := by decide +kernel
theorem dX9_goThrough_58 : decode cX9_goThrough 58 = .ok (.invokevirtual 306, 3) := by decide +kernel
theorem dX9_goThrough_61 : decode cX9_goThrough 61 = .ok (.iand, 1) := by decide +kernel
theorem dX9_goThrough_62 : decode cX9_goThrough 62 = .ok (.iastore, 1) := by decide +kernel
theorem dX9_goThrough_63 : decode cX9_goThrough 63 = .ok (.iinc 3 1, 3) := by decide +kernel
theorem dX9_goThrough_66 : decode cX9_goThrough 66 = .ok (.goto (-35), 3) := by decide +kernel
theorem dX9_goThrough_69 : decode cX9_goThrough 69 = .ok (.aload_n 0, 1) := by decide +kernel
theorem dX9_goThrough_70 : decode cX9_goThrough 70 = .ok (.getfield 67, 3) := by decide +kernel
theorem dX9_goThrough_73 : decode cX9_goThrough 73 = .ok (.iload_n 2, 1) := by decide +kernel
theorem dX9_goThrough_74 : decode cX9_goThrough 74 = .ok (.invokevirtual 289, 3) := by decide +kernel
theorem dX9_goThrough_77 : decode cX9_goThrough 77 = .ok (.return_, 1) := by decide +kernel
def BX9_goThrough_31 (I31 : Int32 → Int32 → Int32 → XT → YT → Prop) (Q : XT → YT → Prop) (a1 : Int32) (a2 : Int32) (a3 : Int32) (X : XT) (Y : YT) : Prop :=
  (((X 13 13) ≤ a3 → PX5_go a2 X Y (fun X3 Y4 => Q X3 Y4)) ∧ (¬ (X 13 13) ≤ a3 → vp_in a3 18 ∧ PX4_leave a1 a3 X Y (fun r6 X7 Y8 => vp_in a3 18 ∧ ∀ X10 : XT, X10 = sX X7 33 a3.toNatClampNeg ((X 33 a3.toNatClampNeg) &&& r6) → ∀ w12 : Int32, w12 = a3 + 1 → I31 a1 a2 w12 X10 Y8)))
def BX9_goThrough_s (I31 : Int32 → Int32 → Int32 → XT → YT → Prop) (Q : XT → YT → Prop) (p0 : Int32) (p1 : Int32) (X : XT) (Y : YT) : Prop :=
  PX0_measure (X 0 8) X Y (fun X2 Y3 => PX9_allBelow (X2 13 10) X2 Y3 (fun r5 X6 Y7 => PX0_lay r5 0 X6 Y7 (fun X10 Y11 => I31 p0 p1 0 X10 Y11)))
def PX9_goThrough (p0 : Int32) (p1 : Int32) (X : XT) (Y : YT) (Q : XT → YT → Prop) : Prop := ∀ (I31 : Int32 → Int32 → Int32 → XT → YT → Prop), (∀ (a1 : Int32) (a2 : Int32) (a3 : Int32) (X : XT) (Y : YT), BX9_goThrough_31 I31 Q a1 a2 a3 X Y → I31 a1 a2 a3 X Y) → BX9_goThrough_s I31 Q p0 p1 X Y
set_option maxHeartbeats 4000000 in
set_option maxRecDepth 100000 in
theorem kX9_goThrough_31 {Γ : Cxt} {Q : XT → YT → Prop} (O : Ok Γ RX9 cX9_goThrough 4 { frames := 4, cells := 0, slots := 0, locals := 93 }) (r : Ret Γ none (qV Q)) {I31 : Int32 → Int32 → Int32 → XT → YT → Prop} (e31 : ∀ (a1 : Int32) (a2 : Int32) (a3 : Int32) (X : XT) (Y : YT), I31 a1 a2 a3 X Y → V Γ 31 [(0, .ref 0), (1, .int a1), (2, .int a2), (3, .int a3)] [] X Y) {a1 : Int32} {a2 : Int32} {a3 : Int32} {X : XT} {Y : YT} (h : BX9_goThrough_31 I31 Q a1 a2 a3 X Y) : V Γ 31 [(0, .ref 0), (1, .int a1), (2, .int a2), (3, .int a3)] [] X Y := by
  refine v_iload_n O dX9_goThrough_31 rfl 3 rfl ?_
  refine v_aload_n O dX9_goThrough_32 rfl 0 rfl ?_
  refine v_get O dX9_goThrough_33 fo_X9_26 sh_0 rfl rfl ?_
  refine v_get O dX9_goThrough_36 fo_X9_137 sh_13 rfl rfl ?_
  refine v_icmp_ge (tgt := 69) O dX9_goThrough_39 (by decide) (fun g1 => ?_) (fun g1 => ?_)
  · refine v_aload_n O dX9_goThrough_69 rfl 0 rfl ?_
    refine v_get O dX9_goThrough_70 fo_X9_67 sh_0 rfl rfl ?_
    refine v_iload_n O dX9_goThrough_73 rfl 2 rfl ?_
    refine v_callV (rm' := { frames := 3, cells := 0, slots := 0, locals := 70 }) (As := [.int a2]) (st := []) O dX9_goThrough_74 ci_X5_go ml_X9_289 mi_X5_go sh_39 rfl ⟨rfl, rfl, (by decide), (by decide)⟩ rfl (Nat.le_of_ble_eq_true rfl) rfl (mX5_go (h.1 g1)) (k_V (fun X3 Y4 h5 => ?_))
    exact v_vret O r dX9_goThrough_77 ⟨rfl, h5⟩
  · refine v_aload_n O dX9_goThrough_42 rfl 0 rfl ?_
    refine v_get O dX9_goThrough_43 fo_X9_49 sh_0 rfl rfl ?_
    refine v_get O dX9_goThrough_46 fo_X9_303 sh_31 rfl rfl ?_
    refine v_iload_n O dX9_goThrough_49 rfl 3 rfl ?_
    refine v_dup2 O dX9_goThrough_50 rfl rfl ?_
    refine v_iald O dX9_goThrough_51 sh_33 (h.2 g1).1 ?_
    refine v_aload_n O dX9_goThrough_52 rfl 0 rfl ?_
    refine v_get O dX9_goThrough_53 fo_X9_42 sh_0 rfl rfl ?_
    refine v_iload_n O dX9_goThrough_56 rfl 1 rfl ?_
    refine v_iload_n O dX9_goThrough_57 rfl 3 rfl ?_
    refine v_callV (rm' := { frames := 2, cells := 0, slots := 0, locals := 43 }) (As := [.int a1, .int a3]) (st := [.int (X 33 a3.toNatClampNeg), .int a3, .ref 33]) O dX9_goThrough_58 ci_X4_leave ml_X9_306 mi_X4_leave sh_28 rfl ⟨rfl, rfl, (by decide), (by decide)⟩ rfl (Nat.le_of_ble_eq_true rfl) rfl (mX4_leave (h.2 g1).2) (k_I (fun r6 X7 Y8 h9 => ?_))
    refine v_iand O dX9_goThrough_61 ?_
    refine v_iast O dX9_goThrough_62 sh_33 h9.1 ?_
    refine v_nmX (fun X10 hX11 => ?_)
    obtain ⟨w12, hw13⟩ : ∃ y : Int32, y = a3 + 1 := ⟨_, rfl⟩
    refine v_iinc (v := w12) (j := 3) O dX9_goThrough_63 rfl (by rw [hw13]; exact congrArg _ kc_1) (by decide) (lv' := [(3, .int w12), (0, .ref 0), (1, .int a1), (2, .int a2)]) rfl ?_
    refine v_goto O dX9_goThrough_66 (tgt := 31) (by decide) ?_
    exact v_loc [1, 2, 3, 0] rfl (e31 a1 a2 w12 X10 Y8 ((h9.2 X10 hX11) w12 hw13))
set_option maxHeartbeats 4000000 in
set_option maxRecDepth 100000 in
theorem kX9_goThrough_s {Γ : Cxt} {Q : XT → YT → Prop} (O : Ok Γ RX9 cX9_goThrough 4 { frames := 4, cells := 0, slots := 0, locals := 93 }) (r : Ret Γ none (qV Q)) {I31 : Int32 → Int32 → Int32 → XT → YT → Prop} (e31 : ∀ (a1 : Int32) (a2 : Int32) (a3 : Int32) (X : XT) (Y : YT), I31 a1 a2 a3 X Y → V Γ 31 [(0, .ref 0), (1, .int a1), (2, .int a2), (3, .int a3)] [] X Y) {p0 : Int32} {p1 : Int32} {X : XT} {Y : YT} (h : BX9_goThrough_s I31 Q p0 p1 X Y) : V Γ 0 [(0, .ref 0), (1, .int p0), (2, .int p1)] [] X Y := by
  refine v_aload_n O dX9_goThrough_0 rfl 0 rfl ?_
  refine v_get O dX9_goThrough_1 fo_X9_58 sh_0 rfl rfl ?_
  refine v_aload_n O dX9_goThrough_4 rfl 0 rfl ?_
  refine v_get O dX9_goThrough_5 fo_X9_71 sh_0 rfl rfl ?_
  refine v_callV (rm' := { frames := 3, cells := 0, slots := 0, locals := 70 }) (As := [.int (X 0 8)]) (st := []) O dX9_goThrough_8 ci_X0_measure ml_X9_269 mi_X0_measure sh_35 rfl ⟨rfl, rfl, (by decide), (by decide)⟩ rfl (Nat.le_of_ble_eq_true rfl) rfl (mX0_measure h) (k_V (fun X2 Y3 h4 => ?_))
  refine v_aload_n O dX9_goThrough_11 rfl 0 rfl ?_
  refine v_get O dX9_goThrough_12 fo_X9_58 sh_0 rfl rfl ?_
  refine v_aload_n O dX9_goThrough_15 rfl 0 rfl ?_
  refine v_get O dX9_goThrough_16 fo_X9_26 sh_0 rfl rfl ?_
  refine v_get O dX9_goThrough_19 fo_X9_133 sh_13 rfl rfl ?_
  refine v_callS (rm' := { frames := 0, cells := 0, slots := 0, locals := 0 }) (As := [.int (X2 13 10)]) (st := [.ref 35]) O dX9_goThrough_22 ci_X9_allBelow ml_X9_104 ms_X9_allBelow ⟨rfl, rfl, (by decide), (by decide)⟩ rfl (Nat.le_of_ble_eq_true rfl) rfl (mX9_allBelow h4) (k_I (fun r5 X6 Y7 h8 => ?_))
  refine v_iconst O dX9_goThrough_25 kc_0 ?_
  refine v_callV (rm' := { frames := 3, cells := 0, slots := 0, locals := 66 }) (As := [.int r5, .int 0]) (st := []) O dX9_goThrough_26 ci_X0_lay ml_X9_286 mi_X0_lay sh_35 rfl ⟨rfl, rfl, (by decide), (by decide)⟩ rfl (Nat.le_of_ble_eq_true rfl) rfl (mX0_lay h8) (k_V (fun X10 Y11 h12 => ?_))
  refine v_iconst O dX9_goThrough_29 kc_0 ?_
  refine v_istore_n (lv' := [(3, .int 0), (0, .ref 0), (1, .int p0), (2, .int p1)]) O dX9_goThrough_30 rfl (by decide) rfl ?_
  exact v_loc [1, 2, 3, 0] rfl (e31 p0 p1 0 X10 Y11 h12)
set_option maxRecDepth 100000 in
theorem mX9_goThrough {Γ : Cxt} {p0 : Int32} {p1 : Int32} {X : XT} {Y : YT} {Q : XT → YT → Prop} (h : PX9_goThrough p0 p1 X Y Q) : MT Γ yX9_goThrough (.code yX9_goThrough cX9_goThrough 4 none :: wl) { frames := 4, cells := 0, slots := 0, locals := 93 } [.ref 0, .int p0, .int p1] X Y (qV Q) :=
  mt_of (by decide) (Nat.le_of_ble_eq_true rfl) (fun Γ _ O r => kX9_goThrough_s O r (fun _ _ _ _ _ g => g) (h (fun a1 a2 a3 X Y => V Γ 31 [(0, .ref 0), (1, .int a1), (2, .int a2), (3, .int a3)] [] X Y) (fun _ _ _ _ _ g => kX9_goThrough_31 O r (fun _ _ _ _ _ g => g) g)))
theorem dX9_countReadings_0 : decode cX9_countReadings 0 = .ok (.aload_n 0, 1) := by decide +kernel
theorem dX9_countReadings_1 : decode cX9_countReadings 1 = .ok (.iload_n 1, 1) := by decide +kernel
theorem dX9_countReadings_2 : decode cX9_countReadings 2 = .ok (.sipush 3000, 3) := by decide +kernel
theorem dX9_countReadings_5 : decode cX9_countReadings 5 = .ok (.invokevirtual 194, 3) := by decide +kernel
theorem dX9_countReadings_8 : decode cX9_countReadings 8 = .ok (.aload_n 0, 1) := by decide +kernel
theorem dX9_countReadings_9 : decode cX9_countReadings 9 = .ok (.getfield 67, 3) := by decide +kernel
theorem dX9_countReadings_12 : decode cX9_countReadings 12 = .ok (.getfield 209, 3) := by decide +kernel
theorem dX9_countReadings_15 : decode cX9_countReadings 15 = .ok (.ifCond .eq 9, 3) := by decide +kernel
theorem dX9_countReadings_18 : decode cX9_countReadings 18 = .ok (.sipush (-1005), 3) := by decide +kernel
theorem dX9_countReadings_21 : decode cX9_countReadings 21 = .ok (.goto 13, 3) := by decide +kernel
theorem dX9_countReadings_24 : decode cX9_countReadings 24 = .ok (.aload_n 0, 1) := by decide +kernel
theorem dX9_countReadings_25 : decode cX9_countReadings 25 = .ok (.getfield 67, 3) := by decide +kernel
theorem dX9_countReadings_28 : decode cX9_countReadings 28 = .ok (.getfield 197, 3) := by decide +kernel
theorem dX9_countReadings_31 : decode cX9_countReadings 31 = .ok (.getfield 201, 3) := by decide +kernel
theorem dX9_countReadings_34 : decode cX9_countReadings 34 = .ok (.ireturn, 1) := by decide +kernel
def BX9_countReadings_s (Q : Int32 → XT → YT → Prop) (p0 : Int32) (X : XT) (Y : YT) : Prop :=
  PX9_goThrough p0 3000 X Y (fun X2 Y3 => (((X2 39 11) = 0 → Q (X2 40 1) X2 Y3) ∧ (¬ (X2 39 11) = 0 → Q (-1005) X2 Y3)))
def PX9_countReadings (p0 : Int32) (X : XT) (Y : YT) (Q : Int32 → XT → YT → Prop) : Prop :=  BX9_countReadings_s Q p0 X Y
set_option maxHeartbeats 4000000 in
set_option maxRecDepth 100000 in
theorem kX9_countReadings_s {Γ : Cxt} {Q : Int32 → XT → YT → Prop} (O : Ok Γ RX9 cX9_countReadings 2 { frames := 5, cells := 0, slots := 0, locals := 116 }) (r : Ret Γ (some .int) (qI Q)) {p0 : Int32} {X : XT} {Y : YT} (h : BX9_countReadings_s Q p0 X Y) : V Γ 0 [(0, .ref 0), (1, .int p0)] [] X Y := by
  refine v_aload_n O dX9_countReadings_0 rfl 0 rfl ?_
  refine v_iload_n O dX9_countReadings_1 rfl 1 rfl ?_
  refine v_sipush O dX9_countReadings_2 ks_3000 ?_
  refine v_callV (rm' := { frames := 4, cells := 0, slots := 0, locals := 93 }) (As := [.int p0, .int 3000]) (st := []) O dX9_countReadings_5 ci_X9_goThrough ml_X9_194 mi_X9_goThrough sh_0 rfl ⟨rfl, rfl, (by decide), (by decide)⟩ rfl (Nat.le_of_ble_eq_true rfl) rfl (mX9_goThrough h) (k_V (fun X2 Y3 h4 => ?_))
  refine v_aload_n O dX9_countReadings_8 rfl 0 rfl ?_
  refine v_get O dX9_countReadings_9 fo_X9_67 sh_0 rfl rfl ?_
  refine v_get O dX9_countReadings_12 fo_X9_209 sh_39 rfl rfl ?_
  refine v_if_eq (tgt := 24) O dX9_countReadings_15 (by decide) (fun g5 => ?_) (fun g5 => ?_)
  · refine v_aload_n O dX9_countReadings_24 rfl 0 rfl ?_
    refine v_get O dX9_countReadings_25 fo_X9_67 sh_0 rfl rfl ?_
    refine v_get O dX9_countReadings_28 fo_X9_197 sh_39 rfl rfl ?_
    refine v_get O dX9_countReadings_31 fo_X9_201 sh_40 rfl rfl ?_
    exact v_iret O r dX9_countReadings_34 ⟨_, rfl, (h4.1 g5)⟩
  · refine v_sipush O dX9_countReadings_18 ks_m1005 ?_
    refine v_goto O dX9_countReadings_21 (tgt := 34) (by decide) ?_
    exact v_iret O r dX9_countReadings_34 ⟨_, rfl, (h4.2 g5)⟩
set_option maxRecDepth 100000 in
theorem mX9_countReadings {Γ : Cxt} {p0 : Int32} {X : XT} {Y : YT} {Q : Int32 → XT → YT → Prop} (h : PX9_countReadings p0 X Y Q) : MT Γ yX9_countReadings (.code yX9_countReadings cX9_countReadings 2 (some .int) :: wl) { frames := 5, cells := 0, slots := 0, locals := 116 } [.ref 0, .int p0] X Y (qI Q) :=
  mt_of (by decide) (Nat.le_of_ble_eq_true rfl) (fun Γ _ O r => kX9_countReadings_s O r  (h ))
theorem dX9_readings_0 : decode cX9_readings 0 = .ok (.aload_n 0, 1) := by decide +kernel
theorem dX9_readings_1 : decode cX9_readings 1 = .ok (.iconst 0, 1) := by decide +kernel
theorem dX9_readings_2 : decode cX9_readings 2 = .ok (.invokevirtual 191, 3) := by decide +kernel
theorem dX9_readings_5 : decode cX9_readings 5 = .ok (.ireturn, 1) := by decide +kernel
def BX9_readings_s (Q : Int32 → XT → YT → Prop) (X : XT) (Y : YT) : Prop :=
  PX9_countReadings 0 X Y (fun r1 X2 Y3 => Q r1 X2 Y3)
def PX9_readings (X : XT) (Y : YT) (Q : Int32 → XT → YT → Prop) : Prop :=  BX9_readings_s Q X Y
set_option maxHeartbeats 4000000 in
set_option maxRecDepth 100000 in
theorem kX9_readings_s {Γ : Cxt} {Q : Int32 → XT → YT → Prop} (O : Ok Γ RX9 cX9_readings 1 { frames := 6, cells := 0, slots := 0, locals := 137 }) (r : Ret Γ (some .int) (qI Q)) {X : XT} {Y : YT} (h : BX9_readings_s Q X Y) : V Γ 0 [(0, .ref 0)] [] X Y := by
  refine v_aload_n O dX9_readings_0 rfl 0 rfl ?_
  refine v_iconst O dX9_readings_1 kc_0 ?_
  refine v_callV (rm' := { frames := 5, cells := 0, slots := 0, locals := 116 }) (As := [.int 0]) (st := []) O dX9_readings_2 ci_X9_countReadings ml_X9_191 mi_X9_countReadings sh_0 rfl ⟨rfl, rfl, (by decide), (by decide)⟩ rfl (Nat.le_of_ble_eq_true rfl) rfl (mX9_countReadings h) (k_I (fun r1 X2 Y3 h4 => ?_))
  exact v_iret O r dX9_readings_5 ⟨_, rfl, h4⟩
set_option maxRecDepth 100000 in
theorem mX9_readings {Γ : Cxt} {X : XT} {Y : YT} {Q : Int32 → XT → YT → Prop} (h : PX9_readings X Y Q) : MT Γ yX9_readings (.code yX9_readings cX9_readings 1 (some .int) :: wl) { frames := 6, cells := 0, slots := 0, locals := 137 } [.ref 0] X Y (qI Q) :=
  mt_of (by decide) (Nat.le_of_ble_eq_true rfl) (fun Γ _ O r => kX9_readings_s O r  (h ))
theorem dX9_reading_0 : decode cX9_reading 0 = .ok (.aload_n 0, 1) := by decide +kernel
theorem dX9_reading_1 : decode cX9_reading 1 = .ok (.getfield 26, 3) := by decide +kernel
theorem dX9_reading_4 : decode cX9_reading 4 = .ok (.iload_n 2, 1) := by decide +kernel
theorem dX9_reading_5 : decode cX9_reading 5 = .ok (.invokevirtual 177, 3) := by decide +kernel
theorem dX9_reading_8 : decode cX9_reading 8 = .ok (.ifCond .ne 7, 3) := by decide +kernel
theorem dX9_reading_11 : decode cX9_reading 11 = .ok (.sipush (-1001), 3) := by decide +kernel
theorem dX9_reading_14 : decode cX9_reading 14 = .ok (.ireturn, 1) := by decide +kernel
theorem dX9_reading_15 : decode cX9_reading 15 = .ok (.iload_n 1, 1) := by decide +kernel
theorem dX9_reading_16 : decode cX9_reading 16 = .ok (.ifCond .ge 7, 3) := by decide +kernel
theorem dX9_reading_19 : decode cX9_reading 19 = .ok (.sipush (-1002), 3) := by decide +kernel
theorem dX9_reading_22 : decode cX9_reading 22 = .ok (.ireturn, 1) := by decide +kernel
theorem dX9_reading_23 : decode cX9_reading 23 = .ok (.aload_n 0, 1) := by decide +kernel
theorem dX9_reading_24 : decode cX9_reading 24 = .ok (.iconst 0, 1) := by decide +kernel
theorem dX9_reading_25 : decode cX9_reading 25 = .ok (.iload_n 1, 1) := by decide +kernel
theorem dX9_reading_26 : decode cX9_reading 26 = .ok (.invokevirtual 194, 3) := by decide +kernel
theorem dX9_reading_29 : decode cX9_reading 29 = .ok (.aload_n 0, 1) := by decide +kernel
theorem dX9_reading_30 : decode cX9_reading 30 = .ok (.getfield 67, 3) := by decide +kernel
theorem dX9_reading_33 : decode cX9_reading 33 = .ok (.getfield 197, 3) := by decide +kernel
theorem dX9_reading_36 : decode cX9_reading 36 = .ok (.getfield 201, 3) := by decide +kernel
theorem dX9_reading_39 : decode cX9_reading 39 = .ok (.iload_n 1, 1) := by decide +kernel
theorem dX9_reading_40 : decode cX9_reading 40 = .ok (.if_icmp .le 13, 3) := by decide +kernel
theorem dX9_reading_43 : decode cX9_reading 43 = .ok (.aload_n 0, 1) := by decide +kernel
theorem dX9_reading_44 : decode cX9_reading 44 = .ok (.getfield 67, 3) := by decide +kernel
theorem dX9_reading_47 : decode cX9_reading 47 = .ok (.getfield 206, 3) := by decide +kernel
theorem dX9_reading_50 : decode cX9_reading 50 = .ok (.iload_n 2, 1) := by decide +kernel
theorem dX9_reading_51 : decode cX9_reading 51 = .ok (.iaload, 1) := by decide +kernel
theorem dX9_reading_52 : decode cX9_reading 52 = .ok (.ireturn, 1) := by decide +kernel
theorem dX9_reading_53 : decode cX9_reading 53 = .ok (.aload_n 0, 1) := by decide +kernel
theorem dX9_reading_54 : decode cX9_reading 54 = .ok (.getfield 67, 3) := by decide +kernel
theorem dX9_reading_57 : decode cX9_reading 57 = .ok (.getfield 209, 3) := by decide +kernel
theorem dX9_reading_60 : decode cX9_reading 60 = .ok (.ifCond .eq 9, 3) := by decide +kernel
theorem dX9_reading_63 : decode cX9_reading 63 = .ok (.sipush (-1005), 3) := by decide +kernel
theorem dX9_reading_66 : decode cX9_reading 66 = .ok (.goto 4, 3) := by decide +kernel
theorem dX9_reading_69 : decode cX9_reading 69 = .ok (.iconst (-1), 1) := by decide +kernel
theorem dX9_reading_70 : decode cX9_reading 70 = .ok (.ireturn, 1) := by decide +kernel
def BX9_reading_s (Q : Int32 → XT → YT → Prop) (p0 : Int32) (p1 : Int32) (X : XT) (Y : YT) : Prop :=
  PX3_isBar p1 X Y (fun r1 X2 Y3 => ((¬ r1 = 0 → ((0 ≤ p0 → PX9_goThrough 0 p0 X2 Y3 (fun X8 Y9 => (((X8 40 1) ≤ p0 → (((X8 39 11) = 0 → Q (-1) X8 Y9) ∧ (¬ (X8 39 11) = 0 → Q (-1005) X8 Y9))) ∧ (¬ (X8 40 1) ≤ p0 → vp_in p1 18 ∧ Q (X8 42 p1.toNatClampNeg) X8 Y9)))) ∧ (¬ 0 ≤ p0 → Q (-1002) X2 Y3))) ∧ (r1 = 0 → Q (-1001) X2 Y3)))
def PX9_reading (p0 : Int32) (p1 : Int32) (X : XT) (Y : YT) (Q : Int32 → XT → YT → Prop) : Prop :=  BX9_reading_s Q p0 p1 X Y
set_option maxHeartbeats 4000000 in
set_option maxRecDepth 100000 in
theorem kX9_reading_s {Γ : Cxt} {Q : Int32 → XT → YT → Prop} (O : Ok Γ RX9 cX9_reading 3 { frames := 5, cells := 0, slots := 0, locals := 116 }) (r : Ret Γ (some .int) (qI Q)) {p0 : Int32} {p1 : Int32} {X : XT} {Y : YT} (h : BX9_reading_s Q p0 p1 X Y) : V Γ 0 [(0, .ref 0), (1, .int p0), (2, .int p1)] [] X Y := by
  refine v_aload_n O dX9_reading_0 rfl 0 rfl ?_
  refine v_get O dX9_reading_1 fo_X9_26 sh_0 rfl rfl ?_
  refine v_iload_n O dX9_reading_4 rfl 2 rfl ?_
  refine v_callV (rm' := { frames := 1, cells := 0, slots := 0, locals := 22 }) (As := [.int p1]) (st := []) O dX9_reading_5 ci_X3_isBar ml_X9_177 mi_X3_isBar sh_13 rfl ⟨rfl, rfl, (by decide), (by decide)⟩ rfl (Nat.le_of_ble_eq_true rfl) rfl (mX3_isBar h) (k_I (fun r1 X2 Y3 h4 => ?_))
  refine v_if_ne (tgt := 15) O dX9_reading_8 (by decide) (fun g5 => ?_) (fun g5 => ?_)
  · refine v_iload_n O dX9_reading_15 rfl 1 rfl ?_
    refine v_if_ge (tgt := 23) O dX9_reading_16 (by decide) (fun g6 => ?_) (fun g6 => ?_)
    · refine v_aload_n O dX9_reading_23 rfl 0 rfl ?_
      refine v_iconst O dX9_reading_24 kc_0 ?_
      refine v_iload_n O dX9_reading_25 rfl 1 rfl ?_
      refine v_callV (rm' := { frames := 4, cells := 0, slots := 0, locals := 93 }) (As := [.int 0, .int p0]) (st := []) O dX9_reading_26 ci_X9_goThrough ml_X9_194 mi_X9_goThrough sh_0 rfl ⟨rfl, rfl, (by decide), (by decide)⟩ rfl (Nat.le_of_ble_eq_true rfl) rfl (mX9_goThrough ((h4.1 g5).1 g6)) (k_V (fun X8 Y9 h10 => ?_))
      refine v_aload_n O dX9_reading_29 rfl 0 rfl ?_
      refine v_get O dX9_reading_30 fo_X9_67 sh_0 rfl rfl ?_
      refine v_get O dX9_reading_33 fo_X9_197 sh_39 rfl rfl ?_
      refine v_get O dX9_reading_36 fo_X9_201 sh_40 rfl rfl ?_
      refine v_iload_n O dX9_reading_39 rfl 1 rfl ?_
      refine v_icmp_le (tgt := 53) O dX9_reading_40 (by decide) (fun g11 => ?_) (fun g11 => ?_)
      · refine v_aload_n O dX9_reading_53 rfl 0 rfl ?_
        refine v_get O dX9_reading_54 fo_X9_67 sh_0 rfl rfl ?_
        refine v_get O dX9_reading_57 fo_X9_209 sh_39 rfl rfl ?_
        refine v_if_eq (tgt := 69) O dX9_reading_60 (by decide) (fun g12 => ?_) (fun g12 => ?_)
        · refine v_iconst O dX9_reading_69 kc_m1 ?_
          exact v_iret O r dX9_reading_70 ⟨_, rfl, ((h10.1 g11).1 g12)⟩
        · refine v_sipush O dX9_reading_63 ks_m1005 ?_
          refine v_goto O dX9_reading_66 (tgt := 70) (by decide) ?_
          exact v_iret O r dX9_reading_70 ⟨_, rfl, ((h10.1 g11).2 g12)⟩
      · refine v_aload_n O dX9_reading_43 rfl 0 rfl ?_
        refine v_get O dX9_reading_44 fo_X9_67 sh_0 rfl rfl ?_
        refine v_get O dX9_reading_47 fo_X9_206 sh_39 rfl rfl ?_
        refine v_iload_n O dX9_reading_50 rfl 2 rfl ?_
        refine v_iald O dX9_reading_51 sh_42 (h10.2 g11).1 ?_
        exact v_iret O r dX9_reading_52 ⟨_, rfl, (h10.2 g11).2⟩
    · refine v_sipush O dX9_reading_19 ks_m1002 ?_
      exact v_iret O r dX9_reading_22 ⟨_, rfl, ((h4.1 g5).2 g6)⟩
  · refine v_sipush O dX9_reading_11 ks_m1001 ?_
    exact v_iret O r dX9_reading_14 ⟨_, rfl, (h4.2 g5)⟩
set_option maxRecDepth 100000 in
theorem mX9_reading {Γ : Cxt} {p0 : Int32} {p1 : Int32} {X : XT} {Y : YT} {Q : Int32 → XT → YT → Prop} (h : PX9_reading p0 p1 X Y Q) : MT Γ yX9_reading (.code yX9_reading cX9_reading 3 (some .int) :: wl) { frames := 5, cells := 0, slots := 0, locals := 116 } [.ref 0, .int p0, .int p1] X Y (qI Q) :=
  mt_of (by decide) (Nat.le_of_ble_eq_true rfl) (fun Γ _ O r => kX9_reading_s O r  (h ))
theorem dX9_mayToReaders_0 : decode cX9_mayToReaders 0 = .ok (.aload_n 0, 1) := by decide +kernel
theorem dX9_mayToReaders_1 : decode cX9_mayToReaders 1 = .ok (.iload_n 1, 1) := by decide +kernel
theorem dX9_mayToReaders_2 : decode cX9_mayToReaders 2 = .ok (.sipush 3000, 3) := by decide +kernel
theorem dX9_mayToReaders_5 : decode cX9_mayToReaders 5 = .ok (.invokevirtual 194, 3) := by decide +kernel
theorem dX9_mayToReaders_8 : decode cX9_mayToReaders 8 = .ok (.aload_n 0, 1) := by decide +kernel
theorem dX9_mayToReaders_9 : decode cX9_mayToReaders 9 = .ok (.getfield 67, 3) := by decide +kernel
theorem dX9_mayToReaders_12 : decode cX9_mayToReaders 12 = .ok (.getfield 209, 3) := by decide +kernel
theorem dX9_mayToReaders_15 : decode cX9_mayToReaders 15 = .ok (.ifCond .eq 9, 3) := by decide +kernel
theorem dX9_mayToReaders_18 : decode cX9_mayToReaders 18 = .ok (.sipush (-1005), 3) := by decide +kernel
theorem dX9_mayToReaders_21 : decode cX9_mayToReaders 21 = .ok (.goto 15, 3) := by decide +kernel
theorem dX9_mayToReaders_24 : decode cX9_mayToReaders 24 = .ok (.aload_n 0, 1) := by decide +kernel
theorem dX9_mayToReaders_25 : decode cX9_mayToReaders 25 = .ok (.getfield 67, 3) := by decide +kernel
theorem dX9_mayToReaders_28 : decode cX9_mayToReaders 28 = .ok (.getfield 197, 3) := by decide +kernel
theorem dX9_mayToReaders_31 : decode cX9_mayToReaders 31 = .ok (.getfield 309, 3) := by decide +kernel
theorem dX9_mayToReaders_34 : decode cX9_mayToReaders 34 = .ok (.iload_n 2, 1) := by decide +kernel
theorem dX9_mayToReaders_35 : decode cX9_mayToReaders 35 = .ok (.iaload, 1) := by decide +kernel
theorem dX9_mayToReaders_36 : decode cX9_mayToReaders 36 = .ok (.ireturn, 1) := by decide +kernel
def BX9_mayToReaders_s (Q : Int32 → XT → YT → Prop) (p0 : Int32) (p1 : Int32) (X : XT) (Y : YT) : Prop :=
  PX9_goThrough p0 3000 X Y (fun X2 Y3 => (((X2 39 11) = 0 → vp_in p1 18 ∧ Q (X2 41 p1.toNatClampNeg) X2 Y3) ∧ (¬ (X2 39 11) = 0 → Q (-1005) X2 Y3)))
def PX9_mayToReaders (p0 : Int32) (p1 : Int32) (X : XT) (Y : YT) (Q : Int32 → XT → YT → Prop) : Prop :=  BX9_mayToReaders_s Q p0 p1 X Y
set_option maxHeartbeats 4000000 in
set_option maxRecDepth 100000 in
theorem kX9_mayToReaders_s {Γ : Cxt} {Q : Int32 → XT → YT → Prop} (O : Ok Γ RX9 cX9_mayToReaders 3 { frames := 5, cells := 0, slots := 0, locals := 116 }) (r : Ret Γ (some .int) (qI Q)) {p0 : Int32} {p1 : Int32} {X : XT} {Y : YT} (h : BX9_mayToReaders_s Q p0 p1 X Y) : V Γ 0 [(0, .ref 0), (1, .int p0), (2, .int p1)] [] X Y := by
  refine v_aload_n O dX9_mayToReaders_0 rfl 0 rfl ?_
  refine v_iload_n O dX9_mayToReaders_1 rfl 1 rfl ?_
  refine v_sipush O dX9_mayToReaders_2 ks_3000 ?_
  refine v_callV (rm' := { frames := 4, cells := 0, slots := 0, locals := 93 }) (As := [.int p0, .int 3000]) (st := []) O dX9_mayToReaders_5 ci_X9_goThrough ml_X9_194 mi_X9_goThrough sh_0 rfl ⟨rfl, rfl, (by decide), (by decide)⟩ rfl (Nat.le_of_ble_eq_true rfl) rfl (mX9_goThrough h) (k_V (fun X2 Y3 h4 => ?_))
  refine v_aload_n O dX9_mayToReaders_8 rfl 0 rfl ?_
  refine v_get O dX9_mayToReaders_9 fo_X9_67 sh_0 rfl rfl ?_
  refine v_get O dX9_mayToReaders_12 fo_X9_209 sh_39 rfl rfl ?_
  refine v_if_eq (tgt := 24) O dX9_mayToReaders_15 (by decide) (fun g5 => ?_) (fun g5 => ?_)
  · refine v_aload_n O dX9_mayToReaders_24 rfl 0 rfl ?_
    refine v_get O dX9_mayToReaders_25 fo_X9_67 sh_0 rfl rfl ?_
    refine v_get O dX9_mayToReaders_28 fo_X9_197 sh_39 rfl rfl ?_
    refine v_get O dX9_mayToReaders_31 fo_X9_309 sh_40 rfl rfl ?_
    refine v_iload_n O dX9_mayToReaders_34 rfl 2 rfl ?_
    refine v_iald O dX9_mayToReaders_35 sh_41 (h4.1 g5).1 ?_
    exact v_iret O r dX9_mayToReaders_36 ⟨_, rfl, (h4.1 g5).2⟩
  · refine v_sipush O dX9_mayToReaders_18 ks_m1005 ?_
    refine v_goto O dX9_mayToReaders_21 (tgt := 36) (by decide) ?_
    exact v_iret O r dX9_mayToReaders_36 ⟨_, rfl, (h4.2 g5)⟩
set_option maxRecDepth 100000 in
theorem mX9_mayToReaders {Γ : Cxt} {p0 : Int32} {p1 : Int32} {X : XT} {Y : YT} {Q : Int32 → XT → YT → Prop} (h : PX9_mayToReaders p0 p1 X Y Q) : MT Γ yX9_mayToReaders (.code yX9_mayToReaders cX9_mayToReaders 3 (some .int) :: wl) { frames := 5, cells := 0, slots := 0, locals := 116 } [.ref 0, .int p0, .int p1] X Y (qI Q) :=
  mt_of (by decide) (Nat.le_of_ble_eq_true rfl) (fun Γ _ O r => kX9_mayToReaders_s O r  (h ))
theorem dX9_may_0 : decode cX9_may 0 = .ok (.aload_n 0, 1) := by decide +kernel
theorem dX9_may_1 : decode cX9_may 1 = .ok (.getfield 26, 3) := by decide +kernel
theorem dX9_may_4 : decode cX9_may 4 = .ok (.iload_n 1, 1) := by decide +kernel
theorem dX9_may_5 : decode cX9_may 5 = .ok (.invokevirtual 177, 3) := by decide +kernel
theorem dX9_may_8 : decode cX9_may 8 = .ok (.ifCond .eq 12, 3) := by decide +kernel
theorem dX9_may_11 : decode cX9_may 11 = .ok (.aload_n 0, 1) := by decide +kernel
theorem dX9_may_12 : decode cX9_may 12 = .ok (.iconst 0, 1) := by decide +kernel
theorem dX9_may_13 : decode cX9_may 13 = .ok (.iload_n 1, 1) := by decide +kernel
theorem dX9_may_14 : decode cX9_may 14 = .ok (.invokevirtual 213, 3) := by decide +kernel
theorem dX9_may_17 : decode cX9_may 17 = .ok (.goto 6, 3) := by decide +kernel
theorem dX9_may_20 : decode cX9_may 20 = .ok (.sipush (-1001), 3) := by decide +kernel
theorem dX9_may_23 : decode cX9_may 23 = .ok (.ireturn, 1) := by decide +kernel
def BX9_may_s (Q : Int32 → XT → YT → Prop) (p0 : Int32) (X : XT) (Y : YT) : Prop :=
  PX3_isBar p0 X Y (fun r1 X2 Y3 => ((r1 = 0 → Q (-1001) X2 Y3) ∧ (¬ r1 = 0 → PX9_mayToReaders 0 p0 X2 Y3 (fun r6 X7 Y8 => Q r6 X7 Y8))))
def PX9_may (p0 : Int32) (X : XT) (Y : YT) (Q : Int32 → XT → YT → Prop) : Prop :=  BX9_may_s Q p0 X Y
set_option maxHeartbeats 4000000 in
set_option maxRecDepth 100000 in
theorem kX9_may_s {Γ : Cxt} {Q : Int32 → XT → YT → Prop} (O : Ok Γ RX9 cX9_may 2 { frames := 6, cells := 0, slots := 0, locals := 138 }) (r : Ret Γ (some .int) (qI Q)) {p0 : Int32} {X : XT} {Y : YT} (h : BX9_may_s Q p0 X Y) : V Γ 0 [(0, .ref 0), (1, .int p0)] [] X Y := by
  refine v_aload_n O dX9_may_0 rfl 0 rfl ?_
  refine v_get O dX9_may_1 fo_X9_26 sh_0 rfl rfl ?_
  refine v_iload_n O dX9_may_4 rfl 1 rfl ?_
  refine v_callV (rm' := { frames := 1, cells := 0, slots := 0, locals := 22 }) (As := [.int p0]) (st := []) O dX9_may_5 ci_X3_isBar ml_X9_177 mi_X3_isBar sh_13 rfl ⟨rfl, rfl, (by decide), (by decide)⟩ rfl (Nat.le_of_ble_eq_true rfl) rfl (mX3_isBar h) (k_I (fun r1 X2 Y3 h4 => ?_))
  refine v_if_eq (tgt := 20) O dX9_may_8 (by decide) (fun g5 => ?_) (fun g5 => ?_)
  · refine v_sipush O dX9_may_20 ks_m1001 ?_
    exact v_iret O r dX9_may_23 ⟨_, rfl, (h4.1 g5)⟩
  · refine v_aload_n O dX9_may_11 rfl 0 rfl ?_
    refine v_iconst O dX9_may_12 kc_0 ?_
    refine v_iload_n O dX9_may_13 rfl 1 rfl ?_
    refine v_callV (rm' := { frames := 5, cells := 0, slots := 0, locals := 116 }) (As := [.int 0, .int p0]) (st := []) O dX9_may_14 ci_X9_mayToReaders ml_X9_213 mi_X9_mayToReaders sh_0 rfl ⟨rfl, rfl, (by decide), (by decide)⟩ rfl (Nat.le_of_ble_eq_true rfl) rfl (mX9_mayToReaders (h4.2 g5)) (k_I (fun r6 X7 Y8 h9 => ?_))
    refine v_goto O dX9_may_17 (tgt := 23) (by decide) ?_
    exact v_iret O r dX9_may_23 ⟨_, rfl, h9⟩
set_option maxRecDepth 100000 in
theorem mX9_may {Γ : Cxt} {p0 : Int32} {X : XT} {Y : YT} {Q : Int32 → XT → YT → Prop} (h : PX9_may p0 X Y Q) : MT Γ yX9_may (.code yX9_may cX9_may 2 (some .int) :: wl) { frames := 6, cells := 0, slots := 0, locals := 138 } [.ref 0, .int p0] X Y (qI Q) :=
  mt_of (by decide) (Nat.le_of_ble_eq_true rfl) (fun Γ _ O r => kX9_may_s O r  (h ))
theorem dX9_fits_0 : decode cX9_fits 0 = .ok (.aload_n 0, 1) := by decide +kernel
theorem dX9_fits_1 : decode cX9_fits 1 = .ok (.getfield 26, 3) := by decide +kernel
theorem dX9_fits_4 : decode cX9_fits 4 = .ok (.iload_n 1, 1) := by decide +kernel
theorem dX9_fits_5 : decode cX9_fits 5 = .ok (.invokevirtual 177, 3) := by decide +kernel
theorem dX9_fits_8 : decode cX9_fits 8 = .ok (.ifCond .eq 26, 3) := by decide +kernel
theorem dX9_fits_11 : decode cX9_fits 11 = .ok (.aload_n 0, 1) := by decide +kernel
theorem dX9_fits_12 : decode cX9_fits 12 = .ok (.getfield 58, 3) := by decide +kernel
theorem dX9_fits_15 : decode cX9_fits 15 = .ok (.aload_n 0, 1) := by decide +kernel
theorem dX9_fits_16 : decode cX9_fits 16 = .ok (.getfield 26, 3) := by decide +kernel
theorem dX9_fits_19 : decode cX9_fits 19 = .ok (.getfield 216, 3) := by decide +kernel
theorem dX9_fits_22 : decode cX9_fits 22 = .ok (.iload_n 1, 1) := by decide +kernel
theorem dX9_fits_23 : decode cX9_fits 23 = .ok (.iaload, 1) := by decide +kernel
theorem dX9_fits_24 : decode cX9_fits 24 = .ok (.aload_n 0, 1) := by decide +kernel
theorem dX9_fits_25 : decode cX9_fits 25 = .ok (.getfield 71, 3) := by decide +kernel
theorem dX9_fits_28 : decode cX9_fits 28 = .ok (.invokevirtual 219, 3) := by decide +kernel
theorem dX9_fits_31 : decode cX9_fits 31 = .ok (.goto 6, 3) := by decide +kernel
theorem dX9_fits_34 : decode cX9_fits 34 = .ok (.sipush (-1001), 3) := by decide +kernel
theorem dX9_fits_37 : decode cX9_fits 37 = .ok (.ireturn, 1) := by decide +kernel
def BX9_fits_s (Q : Int32 → XT → YT → Prop) (p0 : Int32) (X : XT) (Y : YT) : Prop :=
  PX3_isBar p0 X Y (fun r1 X2 Y3 => ((r1 = 0 → Q (-1001) X2 Y3) ∧ (¬ r1 = 0 → vp_in p0 10 ∧ PX0_fittingAt (X2 22 p0.toNatClampNeg) (X2 0 8) X2 Y3 (fun r6 X7 Y8 => Q r6 X7 Y8))))
def PX9_fits (p0 : Int32) (X : XT) (Y : YT) (Q : Int32 → XT → YT → Prop) : Prop :=  BX9_fits_s Q p0 X Y
set_option maxHeartbeats 4000000 in
set_option maxRecDepth 100000 in
theorem kX9_fits_s {Γ : Cxt} {Q : Int32 → XT → YT → Prop} (O : Ok Γ RX9 cX9_fits 2 { frames := 3, cells := 0, slots := 0, locals := 70 }) (r : Ret Γ (some .int) (qI Q)) {p0 : Int32} {X : XT} {Y : YT} (h : BX9_fits_s Q p0 X Y) : V Γ 0 [(0, .ref 0), (1, .int p0)] [] X Y := by
  refine v_aload_n O dX9_fits_0 rfl 0 rfl ?_
  refine v_get O dX9_fits_1 fo_X9_26 sh_0 rfl rfl ?_
  refine v_iload_n O dX9_fits_4 rfl 1 rfl ?_
  refine v_callV (rm' := { frames := 1, cells := 0, slots := 0, locals := 22 }) (As := [.int p0]) (st := []) O dX9_fits_5 ci_X3_isBar ml_X9_177 mi_X3_isBar sh_13 rfl ⟨rfl, rfl, (by decide), (by decide)⟩ rfl (Nat.le_of_ble_eq_true rfl) rfl (mX3_isBar h) (k_I (fun r1 X2 Y3 h4 => ?_))
  refine v_if_eq (tgt := 34) O dX9_fits_8 (by decide) (fun g5 => ?_) (fun g5 => ?_)
  · refine v_sipush O dX9_fits_34 ks_m1001 ?_
    exact v_iret O r dX9_fits_37 ⟨_, rfl, (h4.1 g5)⟩
  · refine v_aload_n O dX9_fits_11 rfl 0 rfl ?_
    refine v_get O dX9_fits_12 fo_X9_58 sh_0 rfl rfl ?_
    refine v_aload_n O dX9_fits_15 rfl 0 rfl ?_
    refine v_get O dX9_fits_16 fo_X9_26 sh_0 rfl rfl ?_
    refine v_get O dX9_fits_19 fo_X9_216 sh_13 rfl rfl ?_
    refine v_iload_n O dX9_fits_22 rfl 1 rfl ?_
    refine v_iald O dX9_fits_23 sh_22 (h4.2 g5).1 ?_
    refine v_aload_n O dX9_fits_24 rfl 0 rfl ?_
    refine v_get O dX9_fits_25 fo_X9_71 sh_0 rfl rfl ?_
    refine v_callV (rm' := { frames := 2, cells := 0, slots := 0, locals := 47 }) (As := [.int (X2 22 p0.toNatClampNeg), .int (X2 0 8)]) (st := []) O dX9_fits_28 ci_X0_fittingAt ml_X9_219 mi_X0_fittingAt sh_35 rfl ⟨rfl, rfl, (by decide), (by decide)⟩ rfl (Nat.le_of_ble_eq_true rfl) rfl (mX0_fittingAt (h4.2 g5).2) (k_I (fun r6 X7 Y8 h9 => ?_))
    refine v_goto O dX9_fits_31 (tgt := 37) (by decide) ?_
    exact v_iret O r dX9_fits_37 ⟨_, rfl, h9⟩
set_option maxRecDepth 100000 in
theorem mX9_fits {Γ : Cxt} {p0 : Int32} {X : XT} {Y : YT} {Q : Int32 → XT → YT → Prop} (h : PX9_fits p0 X Y Q) : MT Γ yX9_fits (.code yX9_fits cX9_fits 2 (some .int) :: wl) { frames := 3, cells := 0, slots := 0, locals := 70 } [.ref 0, .int p0] X Y (qI Q) :=
  mt_of (by decide) (Nat.le_of_ble_eq_true rfl) (fun Γ _ O r => kX9_fits_s O r  (h ))
theorem dX9_commonDivisor_0 : decode cX9_commonDivisor 0 = .ok (.lload_n 0, 1) := by decide +kernel
theorem dX9_commonDivisor_1 : decode cX9_commonDivisor 1 = .ok (.lstore 4, 2) := by decide +kernel
theorem dX9_commonDivisor_3 : decode cX9_commonDivisor 3 = .ok (.lload_n 2, 1) := by decide +kernel
theorem dX9_commonDivisor_4 : decode cX9_commonDivisor 4 = .ok (.lstore 6, 2) := by decide +kernel
theorem dX9_commonDivisor_6 : decode cX9_commonDivisor 6 = .ok (.iconst 0, 1) := by decide +kernel
theorem dX9_commonDivisor_7 : decode cX9_commonDivisor 7 = .ok (.istore 8, 2) := by decide +kernel
theorem dX9_commonDivisor_9 : decode cX9_commonDivisor 9 = .ok (.iload 8, 2) := by decide +kernel
theorem dX9_commonDivisor_11 : decode cX9_commonDivisor 11 = .ok (.ldc_w 315, 3) := by decide +kernel
theorem dX9_commonDivisor_14 : decode cX9_commonDivisor 14 = .ok (.if_icmp .ge 31, 3) := by decide +kernel
theorem dX9_commonDivisor_17 : decode cX9_commonDivisor 17 = .ok (.lload 6, 2) := by decide +kernel
theorem dX9_commonDivisor_19 : decode cX9_commonDivisor 19 = .ok (.lconst 0, 1) := by decide +kernel
theorem dX9_commonDivisor_20 : decode cX9_commonDivisor 20 = .ok (.lcmp, 1) := by decide +kernel
theorem dX9_commonDivisor_21 : decode cX9_commonDivisor 21 = .ok (.ifCond .eq 24, 3) := by decide +kernel
theorem dX9_commonDivisor_24 : decode cX9_commonDivisor 24 = .ok (.lload 4, 2) := by decide +kernel
theorem dX9_commonDivisor_26 : decode cX9_commonDivisor 26 = .ok (.lload 6, 2) := by decide +kernel
theorem dX9_commonDivisor_28 : decode cX9_commonDivisor 28 = .ok (.lrem, 1) := by decide +kernel
theorem dX9_commonDivisor_29 : decode cX9_commonDivisor 29 = .ok (.lstore 9, 2) := by decide +kernel
theorem dX9_commonDivisor_31 : decode cX9_commonDivisor 31 = .ok (.lload 6, 2) := by decide +kernel
theorem dX9_commonDivisor_33 : decode cX9_commonDivisor 33 = .ok (.lstore 4, 2) := by decide +kernel
theorem dX9_commonDivisor_35 : decode cX9_commonDivisor 35 = .ok (.lload 9, 2) := by decide +kernel
theorem dX9_commonDivisor_37 : decode cX9_commonDivisor 37 = .ok (.lstore 6, 2) := by decide +kernel
theorem dX9_commonDivisor_39 : decode cX9_commonDivisor 39 = .ok (.iinc 8 1, 3) := by decide +kernel
theorem dX9_commonDivisor_42 : decode cX9_commonDivisor 42 = .ok (.goto (-33), 3) := by decide +kernel
theorem dX9_commonDivisor_45 : decode cX9_commonDivisor 45 = .ok (.lload 4, 2) := by decide +kernel
theorem dX9_commonDivisor_47 : decode cX9_commonDivisor 47 = .ok (.lreturn, 1) := by decide +kernel
def BX9_commonDivisor_9 (I9 : Int64 → Int64 → Int32 → XT → YT → Prop) (Q : Int64 → XT → YT → Prop) (a4 : Int64) (a6 : Int64) (a8 : Int32) (X : XT) (Y : YT) : Prop :=
  ((100000 ≤ a8 → Q a4 X Y) ∧ (¬ 100000 ≤ a8 → (((lg_cmp a6 (0 : Int64)) = 0 → Q a4 X Y) ∧ (¬ (lg_cmp a6 (0 : Int64)) = 0 → ¬ a6 = 0 ∧ ∀ w3 : Int64, w3 = (a4 - (a4 / a6) * a6) → ∀ w5 : Int32, w5 = a8 + 1 → I9 a6 w3 w5 X Y))))
def BX9_commonDivisor_s (I9 : Int64 → Int64 → Int32 → XT → YT → Prop) (Q : Int64 → XT → YT → Prop) (p0 : Int64) (p1 : Int64) (X : XT) (Y : YT) : Prop :=
  I9 p0 p1 0 X Y
def PX9_commonDivisor (p0 : Int64) (p1 : Int64) (X : XT) (Y : YT) (Q : Int64 → XT → YT → Prop) : Prop := ∀ (I9 : Int64 → Int64 → Int32 → XT → YT → Prop), (∀ (a4 : Int64) (a6 : Int64) (a8 : Int32) (X : XT) (Y : YT), BX9_commonDivisor_9 I9 Q a4 a6 a8 X Y → I9 a4 a6 a8 X Y) → BX9_commonDivisor_s I9 Q p0 p1 X Y
set_option maxHeartbeats 4000000 in
set_option maxRecDepth 100000 in
theorem kX9_commonDivisor_9 {Γ : Cxt} {Q : Int64 → XT → YT → Prop} (O : Ok Γ RX9 cX9_commonDivisor 11 { frames := 0, cells := 0, slots := 0, locals := 0 }) (r : Ret Γ (some .long) (qL Q)) {I9 : Int64 → Int64 → Int32 → XT → YT → Prop} (e9 : ∀ (a4 : Int64) (a6 : Int64) (a8 : Int32) (X : XT) (Y : YT), I9 a4 a6 a8 X Y → V Γ 9 [(4, .long a4), (6, .long a6), (8, .int a8)] [] X Y) {a4 : Int64} {a6 : Int64} {a8 : Int32} {X : XT} {Y : YT} (h : BX9_commonDivisor_9 I9 Q a4 a6 a8 X Y) : V Γ 9 [(4, .long a4), (6, .long a6), (8, .int a8)] [] X Y := by
  refine v_iload O dX9_commonDivisor_9 2 rfl ?_
  refine v_ldcw O dX9_commonDivisor_11 ki_X9_315 ?_
  refine v_icmp_ge (tgt := 45) O dX9_commonDivisor_14 (by decide) (fun g1 => ?_) (fun g1 => ?_)
  · refine v_lload O dX9_commonDivisor_45 0 rfl ?_
    exact v_lret O r dX9_commonDivisor_47 ⟨_, rfl, (h.1 g1)⟩
  · refine v_lload O dX9_commonDivisor_17 1 rfl ?_
    refine v_lconst O dX9_commonDivisor_19 (v := 0) (by decide) ?_
    refine v_lcmp O dX9_commonDivisor_20 ?_
    refine v_if_eq (tgt := 45) O dX9_commonDivisor_21 (by decide) (fun g2 => ?_) (fun g2 => ?_)
    · refine v_lload O dX9_commonDivisor_45 0 rfl ?_
      exact v_lret O r dX9_commonDivisor_47 ⟨_, rfl, ((h.2 g1).1 g2)⟩
    · refine v_lload O dX9_commonDivisor_24 0 rfl ?_
      refine v_lload O dX9_commonDivisor_26 1 rfl ?_
      refine v_lrem O dX9_commonDivisor_28 ((h.2 g1).2 g2).1 ?_
      refine v_topl (fun w3 hw4 => ?_)
      refine v_lstore (lv' := [(9, .long w3), (4, .long a4), (6, .long a6), (8, .int a8)]) O dX9_commonDivisor_29 (by decide) rfl ?_
      refine v_lload O dX9_commonDivisor_31 2 rfl ?_
      refine v_lstore (lv' := [(4, .long a6), (9, .long w3), (6, .long a6), (8, .int a8)]) O dX9_commonDivisor_33 (by decide) rfl ?_
      refine v_lload O dX9_commonDivisor_35 1 rfl ?_
      refine v_lstore (lv' := [(6, .long w3), (4, .long a6), (9, .long w3), (8, .int a8)]) O dX9_commonDivisor_37 (by decide) rfl ?_
      obtain ⟨w5, hw6⟩ : ∃ y : Int32, y = a8 + 1 := ⟨_, rfl⟩
      refine v_iinc (v := w5) (j := 3) O dX9_commonDivisor_39 rfl (by rw [hw6]; exact congrArg _ kc_1) (by decide) (lv' := [(8, .int w5), (6, .long w3), (4, .long a6), (9, .long w3)]) rfl ?_
      refine v_goto O dX9_commonDivisor_42 (tgt := 9) (by decide) ?_
      exact v_loc [2, 1, 0] rfl (e9 a6 w3 w5 X Y ((((h.2 g1).2 g2).2 w3 hw4) w5 hw6))
set_option maxHeartbeats 4000000 in
set_option maxRecDepth 100000 in
theorem kX9_commonDivisor_s {Γ : Cxt} {Q : Int64 → XT → YT → Prop} (O : Ok Γ RX9 cX9_commonDivisor 11 { frames := 0, cells := 0, slots := 0, locals := 0 }) (r : Ret Γ (some .long) (qL Q)) {I9 : Int64 → Int64 → Int32 → XT → YT → Prop} (e9 : ∀ (a4 : Int64) (a6 : Int64) (a8 : Int32) (X : XT) (Y : YT), I9 a4 a6 a8 X Y → V Γ 9 [(4, .long a4), (6, .long a6), (8, .int a8)] [] X Y) {p0 : Int64} {p1 : Int64} {X : XT} {Y : YT} (h : BX9_commonDivisor_s I9 Q p0 p1 X Y) : V Γ 0 [(0, .long p0), (2, .long p1)] [] X Y := by
  refine v_lload_n O dX9_commonDivisor_0 rfl 0 rfl ?_
  refine v_lstore (lv' := [(4, .long p0), (0, .long p0), (2, .long p1)]) O dX9_commonDivisor_1 (by decide) rfl ?_
  refine v_lload_n O dX9_commonDivisor_3 rfl 2 rfl ?_
  refine v_lstore (lv' := [(6, .long p1), (4, .long p0), (0, .long p0), (2, .long p1)]) O dX9_commonDivisor_4 (by decide) rfl ?_
  refine v_iconst O dX9_commonDivisor_6 kc_0 ?_
  refine v_istore (lv' := [(8, .int 0), (6, .long p1), (4, .long p0), (0, .long p0), (2, .long p1)]) O dX9_commonDivisor_7 (by decide) rfl ?_
  exact v_loc [2, 1, 0] rfl (e9 p0 p1 0 X Y h)
set_option maxRecDepth 100000 in
theorem mX9_commonDivisor {Γ : Cxt} {p0 : Int64} {p1 : Int64} {X : XT} {Y : YT} {Q : Int64 → XT → YT → Prop} (h : PX9_commonDivisor p0 p1 X Y Q) : MT Γ yX9_commonDivisor (.code yX9_commonDivisor cX9_commonDivisor 11 (some .long) :: wl) { frames := 0, cells := 0, slots := 0, locals := 0 } [.long p0, .long p1] X Y (qL Q) :=
  mt_of (by decide) (Nat.le_of_ble_eq_true rfl) (fun Γ _ O r => kX9_commonDivisor_s O r (fun _ _ _ _ _ g => g) (h (fun a4 a6 a8 X Y => V Γ 9 [(4, .long a4), (6, .long a6), (8, .int a8)] [] X Y) (fun _ _ _ _ _ g => kX9_commonDivisor_9 O r (fun _ _ _ _ _ g => g) g)))
theorem dX9_odds_0 : decode cX9_odds 0 = .ok (.aload_n 0, 1) := by decide +kernel
theorem dX9_odds_1 : decode cX9_odds 1 = .ok (.getfield 26, 3) := by decide +kernel
theorem dX9_odds_4 : decode cX9_odds 4 = .ok (.iload_n 1, 1) := by decide +kernel
theorem dX9_odds_5 : decode cX9_odds 5 = .ok (.invokevirtual 177, 3) := by decide +kernel
theorem dX9_odds_8 : decode cX9_odds 8 = .ok (.ifCond .eq 14, 3) := by decide +kernel
theorem dX9_odds_11 : decode cX9_odds 11 = .ok (.aload_n 0, 1) := by decide +kernel
theorem dX9_odds_12 : decode cX9_odds 12 = .ok (.getfield 19, 3) := by decide +kernel
theorem dX9_odds_15 : decode cX9_odds 15 = .ok (.iload_n 2, 1) := by decide +kernel
theorem dX9_odds_16 : decode cX9_odds 16 = .ok (.invokevirtual 100, 3) := by decide +kernel
theorem dX9_odds_19 : decode cX9_odds 19 = .ok (.ifCond .ne 7, 3) := by decide +kernel
theorem dX9_odds_22 : decode cX9_odds 22 = .ok (.ldc2_w 222, 3) := by decide +kernel
theorem dX9_odds_25 : decode cX9_odds 25 = .ok (.lreturn, 1) := by decide +kernel
theorem dX9_odds_26 : decode cX9_odds 26 = .ok (.iload_n 3, 1) := by decide +kernel
theorem dX9_odds_27 : decode cX9_odds 27 = .ok (.iconst 0, 1) := by decide +kernel
theorem dX9_odds_28 : decode cX9_odds 28 = .ok (.iconst 1, 1) := by decide +kernel
theorem dX9_odds_29 : decode cX9_odds 29 = .ok (.invokestatic 81, 3) := by decide +kernel
theorem dX9_odds_32 : decode cX9_odds 32 = .ok (.ifCond .ne 7, 3) := by decide +kernel
theorem dX9_odds_35 : decode cX9_odds 35 = .ok (.ldc2_w 224, 3) := by decide +kernel
theorem dX9_odds_38 : decode cX9_odds 38 = .ok (.lreturn, 1) := by decide +kernel
theorem dX9_odds_39 : decode cX9_odds 39 = .ok (.aload_n 0, 1) := by decide +kernel
theorem dX9_odds_40 : decode cX9_odds 40 = .ok (.getfield 67, 3) := by decide +kernel
theorem dX9_odds_43 : decode cX9_odds 43 = .ok (.getfield 197, 3) := by decide +kernel
theorem dX9_odds_46 : decode cX9_odds 46 = .ok (.iload_n 1, 1) := by decide +kernel
theorem dX9_odds_47 : decode cX9_odds 47 = .ok (.iload_n 2, 1) := by decide +kernel
theorem dX9_odds_48 : decode cX9_odds 48 = .ok (.invokevirtual 226, 3) := by decide +kernel
theorem dX9_odds_51 : decode cX9_odds 51 = .ok (.aload_n 0, 1) := by decide +kernel
theorem dX9_odds_52 : decode cX9_odds 52 = .ok (.iconst 0, 1) := by decide +kernel
theorem dX9_odds_53 : decode cX9_odds 53 = .ok (.sipush 3000, 3) := by decide +kernel
theorem dX9_odds_56 : decode cX9_odds 56 = .ok (.invokevirtual 194, 3) := by decide +kernel
theorem dX9_odds_59 : decode cX9_odds 59 = .ok (.aload_n 0, 1) := by decide +kernel
theorem dX9_odds_60 : decode cX9_odds 60 = .ok (.getfield 67, 3) := by decide +kernel
theorem dX9_odds_63 : decode cX9_odds 63 = .ok (.getfield 209, 3) := by decide +kernel
theorem dX9_odds_66 : decode cX9_odds 66 = .ok (.ifCond .eq 7, 3) := by decide +kernel
theorem dX9_odds_69 : decode cX9_odds 69 = .ok (.ldc2_w 229, 3) := by decide +kernel
theorem dX9_odds_72 : decode cX9_odds 72 = .ok (.lreturn, 1) := by decide +kernel
theorem dX9_odds_73 : decode cX9_odds 73 = .ok (.aload_n 0, 1) := by decide +kernel
theorem dX9_odds_74 : decode cX9_odds 74 = .ok (.getfield 67, 3) := by decide +kernel
theorem dX9_odds_77 : decode cX9_odds 77 = .ok (.getfield 197, 3) := by decide +kernel
theorem dX9_odds_80 : decode cX9_odds 80 = .ok (.getfield 231, 3) := by decide +kernel
theorem dX9_odds_83 : decode cX9_odds 83 = .ok (.lstore 4, 2) := by decide +kernel
theorem dX9_odds_85 : decode cX9_odds 85 = .ok (.aload_n 0, 1) := by decide +kernel
theorem dX9_odds_86 : decode cX9_odds 86 = .ok (.getfield 67, 3) := by decide +kernel
theorem dX9_odds_89 : decode cX9_odds 89 = .ok (.getfield 197, 3) := by decide +kernel
theorem dX9_odds_92 : decode cX9_odds 92 = .ok (.getfield 235, 3) := by decide +kernel
theorem dX9_odds_95 : decode cX9_odds 95 = .ok (.lstore 6, 2) := by decide +kernel
theorem dX9_odds_97 : decode cX9_odds 97 = .ok (.lload 6, 2) := by decide +kernel
theorem dX9_odds_99 : decode cX9_odds 99 = .ok (.lload 4, 2) := by decide +kernel
theorem dX9_odds_101 : decode cX9_odds 101 = .ok (.invokestatic 238, 3) := by decide +kernel
theorem dX9_odds_104 : decode cX9_odds 104 = .ok (.lstore 8, 2) := by decide +kernel
theorem dX9_odds_106 : decode cX9_odds 106 = .ok (.aload_n 0, 1) := by decide +kernel
theorem dX9_odds_107 : decode cX9_odds 107 = .ok (.getfield 67, 3) := by decide +kernel
theorem dX9_odds_110 : decode cX9_odds 110 = .ok (.getfield 197, 3) := by decide +kernel
theorem dX9_odds_113 : decode cX9_odds 113 = .ok (.getfield 201, 3) := by decide +kernel
theorem dX9_odds_116 : decode cX9_odds 116 = .ok (.ifCond .eq 10, 3) := by decide +kernel
theorem dX9_odds_119 : decode cX9_odds 119 = .ok (.lload 8, 2) := by decide +kernel
theorem dX9_odds_121 : decode cX9_odds 121 = .ok (.lconst 0, 1) := by decide +kernel
theorem dX9_odds_122 : decode cX9_odds 122 = .ok (.lcmp, 1) := by decide +kernel
theorem dX9_odds_123 : decode cX9_odds 123 = .ok (.ifCond .ne 7, 3) := by decide +kernel
theorem dX9_odds_126 : decode cX9_odds 126 = .ok (.ldc2_w 242, 3) := by decide +kernel
theorem dX9_odds_129 : decode cX9_odds 129 = .ok (.lreturn, 1) := by decide +kernel
theorem dX9_odds_130 : decode cX9_odds 130 = .ok (.iload_n 3, 1) := by decide +kernel
theorem dX9_odds_131 : decode cX9_odds 131 = .ok (.ifCond .ne 8, 3) := by decide +kernel
theorem dX9_odds_134 : decode cX9_odds 134 = .ok (.lload 4, 2) := by decide +kernel
theorem dX9_odds_136 : decode cX9_odds 136 = .ok (.goto 5, 3) := by decide +kernel
theorem dX9_odds_139 : decode cX9_odds 139 = .ok (.lload 6, 2) := by decide +kernel
theorem dX9_odds_141 : decode cX9_odds 141 = .ok (.lload 8, 2) := by decide +kernel
theorem dX9_odds_143 : decode cX9_odds 143 = .ok (.ldiv, 1) := by decide +kernel
theorem dX9_odds_144 : decode cX9_odds 144 = .ok (.lreturn, 1) := by decide +kernel
def BX9_odds_s (Q : Int64 → XT → YT → Prop) (p0 : Int32) (p1 : Int32) (p2 : Int32) (X : XT) (Y : YT) : Prop :=
  PX3_isBar p0 X Y (fun r1 X2 Y3 => ((r1 = 0 → Q (-1001 : Int64) X2 Y3) ∧ (¬ r1 = 0 → PX1_isKnown p1 X2 Y3 (fun r6 X7 Y8 => ((¬ r6 = 0 → PX9_within p2 0 1 X7 Y8 (fun r11 X12 Y13 => ((¬ r11 = 0 → PX7_ask p0 p1 X12 Y13 (fun X17 Y18 => PX9_goThrough 0 3000 X17 Y18 (fun X21 Y22 => (((X21 39 11) = 0 → ∀ w25 : Int64, w25 = (Y22 40 4) → ∀ w27 : Int64, w27 = (Y22 40 3) → PX9_commonDivisor w27 w25 X21 Y22 (fun r29 X30 Y31 => (((X30 40 1) = 0 → Q (-1003 : Int64) X30 Y31) ∧ (¬ (X30 40 1) = 0 → ((¬ (lg_cmp r29 (0 : Int64)) = 0 → ((¬ p2 = 0 → ¬ r29 = 0 ∧ Q (w27 / r29) X30 Y31) ∧ (p2 = 0 → ¬ r29 = 0 ∧ Q (w25 / r29) X30 Y31))) ∧ ((lg_cmp r29 (0 : Int64)) = 0 → Q (-1003 : Int64) X30 Y31)))))) ∧ (¬ (X21 39 11) = 0 → Q (-1005 : Int64) X21 Y22))))) ∧ (r11 = 0 → Q (-1002 : Int64) X12 Y13)))) ∧ (r6 = 0 → Q (-1001 : Int64) X7 Y8))))))
def PX9_odds (p0 : Int32) (p1 : Int32) (p2 : Int32) (X : XT) (Y : YT) (Q : Int64 → XT → YT → Prop) : Prop :=  BX9_odds_s Q p0 p1 p2 X Y
set_option maxHeartbeats 4000000 in
set_option maxRecDepth 100000 in
theorem kX9_odds_s {Γ : Cxt} {Q : Int64 → XT → YT → Prop} (O : Ok Γ RX9 cX9_odds 10 { frames := 5, cells := 0, slots := 0, locals := 116 }) (r : Ret Γ (some .long) (qL Q)) {p0 : Int32} {p1 : Int32} {p2 : Int32} {X : XT} {Y : YT} (h : BX9_odds_s Q p0 p1 p2 X Y) : V Γ 0 [(0, .ref 0), (1, .int p0), (2, .int p1), (3, .int p2)] [] X Y := by
  refine v_aload_n O dX9_odds_0 rfl 0 rfl ?_
  refine v_get O dX9_odds_1 fo_X9_26 sh_0 rfl rfl ?_
  refine v_iload_n O dX9_odds_4 rfl 1 rfl ?_
  refine v_callV (rm' := { frames := 1, cells := 0, slots := 0, locals := 22 }) (As := [.int p0]) (st := []) O dX9_odds_5 ci_X3_isBar ml_X9_177 mi_X3_isBar sh_13 rfl ⟨rfl, rfl, (by decide), (by decide)⟩ rfl (Nat.le_of_ble_eq_true rfl) rfl (mX3_isBar h) (k_I (fun r1 X2 Y3 h4 => ?_))
  refine v_if_eq (tgt := 22) O dX9_odds_8 (by decide) (fun g5 => ?_) (fun g5 => ?_)
  · refine v_ldc2 O dX9_odds_22 kl_X9_222 ?_
    exact v_lret O r dX9_odds_25 ⟨_, rfl, (h4.1 g5)⟩
  · refine v_aload_n O dX9_odds_11 rfl 0 rfl ?_
    refine v_get O dX9_odds_12 fo_X9_19 sh_0 rfl rfl ?_
    refine v_iload_n O dX9_odds_15 rfl 2 rfl ?_
    refine v_callV (rm' := { frames := 1, cells := 0, slots := 0, locals := 22 }) (As := [.int p1]) (st := []) O dX9_odds_16 ci_X1_isKnown ml_X9_100 mi_X1_isKnown sh_3 rfl ⟨rfl, rfl, (by decide), (by decide)⟩ rfl (Nat.le_of_ble_eq_true rfl) rfl (mX1_isKnown (h4.2 g5)) (k_I (fun r6 X7 Y8 h9 => ?_))
    refine v_if_ne (tgt := 26) O dX9_odds_19 (by decide) (fun g10 => ?_) (fun g10 => ?_)
    · refine v_iload_n O dX9_odds_26 rfl 3 rfl ?_
      refine v_iconst O dX9_odds_27 kc_0 ?_
      refine v_iconst O dX9_odds_28 kc_1 ?_
      refine v_callS (rm' := { frames := 0, cells := 0, slots := 0, locals := 0 }) (As := [.int p2, .int 0, .int 1]) (st := []) O dX9_odds_29 ci_X9_within ml_X9_81 ms_X9_within ⟨rfl, rfl, (by decide), (by decide)⟩ rfl (Nat.le_of_ble_eq_true rfl) rfl (mX9_within (h9.1 g10)) (k_I (fun r11 X12 Y13 h14 => ?_))
      refine v_if_ne (tgt := 39) O dX9_odds_32 (by decide) (fun g15 => ?_) (fun g15 => ?_)
      · refine v_aload_n O dX9_odds_39 rfl 0 rfl ?_
        refine v_get O dX9_odds_40 fo_X9_67 sh_0 rfl rfl ?_
        refine v_get O dX9_odds_43 fo_X9_197 sh_39 rfl rfl ?_
        refine v_iload_n O dX9_odds_46 rfl 1 rfl ?_
        refine v_iload_n O dX9_odds_47 rfl 2 rfl ?_
        refine v_callV (rm' := { frames := 0, cells := 0, slots := 0, locals := 0 }) (As := [.int p0, .int p1]) (st := []) O dX9_odds_48 ci_X7_ask ml_X9_226 mi_X7_ask sh_40 rfl ⟨rfl, rfl, (by decide), (by decide)⟩ rfl (Nat.le_of_ble_eq_true rfl) rfl (mX7_ask (h14.1 g15)) (k_V (fun X17 Y18 h19 => ?_))
        refine v_aload_n O dX9_odds_51 rfl 0 rfl ?_
        refine v_iconst O dX9_odds_52 kc_0 ?_
        refine v_sipush O dX9_odds_53 ks_3000 ?_
        refine v_callV (rm' := { frames := 4, cells := 0, slots := 0, locals := 93 }) (As := [.int 0, .int 3000]) (st := []) O dX9_odds_56 ci_X9_goThrough ml_X9_194 mi_X9_goThrough sh_0 rfl ⟨rfl, rfl, (by decide), (by decide)⟩ rfl (Nat.le_of_ble_eq_true rfl) rfl (mX9_goThrough h19) (k_V (fun X21 Y22 h23 => ?_))
        refine v_aload_n O dX9_odds_59 rfl 0 rfl ?_
        refine v_get O dX9_odds_60 fo_X9_67 sh_0 rfl rfl ?_
        refine v_get O dX9_odds_63 fo_X9_209 sh_39 rfl rfl ?_
        refine v_if_eq (tgt := 73) O dX9_odds_66 (by decide) (fun g24 => ?_) (fun g24 => ?_)
        · refine v_aload_n O dX9_odds_73 rfl 0 rfl ?_
          refine v_get O dX9_odds_74 fo_X9_67 sh_0 rfl rfl ?_
          refine v_get O dX9_odds_77 fo_X9_197 sh_39 rfl rfl ?_
          refine v_get O dX9_odds_80 fo_X9_231 sh_40 rfl rfl ?_
          refine v_topl (fun w25 hw26 => ?_)
          refine v_lstore (lv' := [(4, .long w25), (0, .ref 0), (1, .int p0), (2, .int p1), (3, .int p2)]) O dX9_odds_83 (by decide) rfl ?_
          refine v_aload_n O dX9_odds_85 rfl 1 rfl ?_
          refine v_get O dX9_odds_86 fo_X9_67 sh_0 rfl rfl ?_
          refine v_get O dX9_odds_89 fo_X9_197 sh_39 rfl rfl ?_
          refine v_get O dX9_odds_92 fo_X9_235 sh_40 rfl rfl ?_
          refine v_topl (fun w27 hw28 => ?_)
          refine v_lstore (lv' := [(6, .long w27), (4, .long w25), (0, .ref 0), (1, .int p0), (2, .int p1), (3, .int p2)]) O dX9_odds_95 (by decide) rfl ?_
          refine v_lload O dX9_odds_97 0 rfl ?_
          refine v_lload O dX9_odds_99 1 rfl ?_
          refine v_callS (rm' := { frames := 0, cells := 0, slots := 0, locals := 0 }) (As := [.long w27, .long w25]) (st := []) O dX9_odds_101 ci_X9_commonDivisor ml_X9_238 ms_X9_commonDivisor ⟨rfl, rfl, (by decide), (by decide)⟩ rfl (Nat.le_of_ble_eq_true rfl) rfl (mX9_commonDivisor (((h23.1 g24) w25 hw26) w27 hw28)) (k_L (fun r29 X30 Y31 h32 => ?_))
          refine v_lstore (lv' := [(8, .long r29), (6, .long w27), (4, .long w25), (0, .ref 0), (1, .int p0), (2, .int p1), (3, .int p2)]) O dX9_odds_104 (by decide) rfl ?_
          refine v_aload_n O dX9_odds_106 rfl 3 rfl ?_
          refine v_get O dX9_odds_107 fo_X9_67 sh_0 rfl rfl ?_
          refine v_get O dX9_odds_110 fo_X9_197 sh_39 rfl rfl ?_
          refine v_get O dX9_odds_113 fo_X9_201 sh_40 rfl rfl ?_
          refine v_if_eq (tgt := 126) O dX9_odds_116 (by decide) (fun g33 => ?_) (fun g33 => ?_)
          · refine v_ldc2 O dX9_odds_126 kl_X9_242 ?_
            exact v_lret O r dX9_odds_129 ⟨_, rfl, (h32.1 g33)⟩
          · refine v_lload O dX9_odds_119 0 rfl ?_
            refine v_lconst O dX9_odds_121 (v := 0) (by decide) ?_
            refine v_lcmp O dX9_odds_122 ?_
            refine v_if_ne (tgt := 130) O dX9_odds_123 (by decide) (fun g34 => ?_) (fun g34 => ?_)
            · refine v_iload_n O dX9_odds_130 rfl 6 rfl ?_
              refine v_if_ne (tgt := 139) O dX9_odds_131 (by decide) (fun g35 => ?_) (fun g35 => ?_)
              · refine v_lload O dX9_odds_139 1 rfl ?_
                refine v_lload O dX9_odds_141 0 rfl ?_
                refine v_ldiv O dX9_odds_143 (((h32.2 g33).1 g34).1 g35).1 ?_
                exact v_lret O r dX9_odds_144 ⟨_, rfl, (((h32.2 g33).1 g34).1 g35).2⟩
              · refine v_lload O dX9_odds_134 2 rfl ?_
                refine v_goto O dX9_odds_136 (tgt := 141) (by decide) ?_
                refine v_lload O dX9_odds_141 0 rfl ?_
                refine v_ldiv O dX9_odds_143 (((h32.2 g33).1 g34).2 g35).1 ?_
                exact v_lret O r dX9_odds_144 ⟨_, rfl, (((h32.2 g33).1 g34).2 g35).2⟩
            · refine v_ldc2 O dX9_odds_126 kl_X9_242 ?_
              exact v_lret O r dX9_odds_129 ⟨_, rfl, ((h32.2 g33).2 g34)⟩
        · refine v_ldc2 O dX9_odds_69 kl_X9_229 ?_
          exact v_lret O r dX9_odds_72 ⟨_, rfl, (h23.2 g24)⟩
      · refine v_ldc2 O dX9_odds_35 kl_X9_224 ?_
        exact v_lret O r dX9_odds_38 ⟨_, rfl, (h14.2 g15)⟩
    · refine v_ldc2 O dX9_odds_22 kl_X9_222 ?_
      exact v_lret O r dX9_odds_25 ⟨_, rfl, (h9.2 g10)⟩
set_option maxRecDepth 100000 in
theorem mX9_odds {Γ : Cxt} {p0 : Int32} {p1 : Int32} {p2 : Int32} {X : XT} {Y : YT} {Q : Int64 → XT → YT → Prop} (h : PX9_odds p0 p1 p2 X Y Q) : MT Γ yX9_odds (.code yX9_odds cX9_odds 10 (some .long) :: wl) { frames := 5, cells := 0, slots := 0, locals := 116 } [.ref 0, .int p0, .int p1, .int p2] X Y (qL Q) :=
  mt_of (by decide) (Nat.le_of_ble_eq_true rfl) (fun Γ _ O r => kX9_odds_s O r  (h ))
theorem dX9_on_0 : decode cX9_on 0 = .ok (.aload_n 0, 1) := by decide +kernel
theorem dX9_on_1 : decode cX9_on 1 = .ok (.getfield 19, 3) := by decide +kernel
theorem dX9_on_4 : decode cX9_on 4 = .ok (.iload_n 1, 1) := by decide +kernel
theorem dX9_on_5 : decode cX9_on 5 = .ok (.invokevirtual 100, 3) := by decide +kernel
theorem dX9_on_8 : decode cX9_on 8 = .ok (.ifCond .ne 7, 3) := by decide +kernel
theorem dX9_on_11 : decode cX9_on 11 = .ok (.sipush (-1001), 3) := by decide +kernel
theorem dX9_on_14 : decode cX9_on 14 = .ok (.ireturn, 1) := by decide +kernel
theorem dX9_on_15 : decode cX9_on 15 = .ok (.aload_n 0, 1) := by decide +kernel
theorem dX9_on_16 : decode cX9_on 16 = .ok (.getfield 58, 3) := by decide +kernel
theorem dX9_on_19 : decode cX9_on 19 = .ok (.aload_n 0, 1) := by decide +kernel
theorem dX9_on_20 : decode cX9_on 20 = .ok (.getfield 26, 3) := by decide +kernel
theorem dX9_on_23 : decode cX9_on 23 = .ok (.getfield 133, 3) := by decide +kernel
theorem dX9_on_26 : decode cX9_on 26 = .ok (.invokestatic 104, 3) := by decide +kernel
theorem dX9_on_29 : decode cX9_on 29 = .ok (.iconst 0, 1) := by decide +kernel
theorem dX9_on_30 : decode cX9_on 30 = .ok (.invokevirtual 244, 3) := by decide +kernel
theorem dX9_on_33 : decode cX9_on 33 = .ok (.iload_n 1, 1) := by decide +kernel
theorem dX9_on_34 : decode cX9_on 34 = .ok (.invokestatic 183, 3) := by decide +kernel
theorem dX9_on_37 : decode cX9_on 37 = .ok (.ifCond .eq 5, 3) := by decide +kernel
theorem dX9_on_40 : decode cX9_on 40 = .ok (.iconst 2, 1) := by decide +kernel
theorem dX9_on_41 : decode cX9_on 41 = .ok (.ireturn, 1) := by decide +kernel
theorem dX9_on_42 : decode cX9_on 42 = .ok (.aload_n 0, 1) := by decide +kernel
theorem dX9_on_43 : decode cX9_on 43 = .ok (.iconst 0, 1) := by decide +kernel
theorem dX9_on_44 : decode cX9_on 44 = .ok (.sipush 3000, 3) := by decide +kernel
theorem dX9_on_47 : decode cX9_on 47 = .ok (.invokevirtual 194, 3) := by decide +kernel
theorem dX9_on_50 : decode cX9_on 50 = .ok (.aload_n 0, 1) := by decide +kernel
theorem dX9_on_51 : decode cX9_on 51 = .ok (.getfield 67, 3) := by decide +kernel
theorem dX9_on_54 : decode cX9_on 54 = .ok (.getfield 209, 3) := by decide +kernel
theorem dX9_on_57 : decode cX9_on 57 = .ok (.ifCond .eq 7, 3) := by decide +kernel
theorem dX9_on_60 : decode cX9_on 60 = .ok (.sipush (-1005), 3) := by decide +kernel
theorem dX9_on_63 : decode cX9_on 63 = .ok (.ireturn, 1) := by decide +kernel
theorem dX9_on_64 : decode cX9_on 64 = .ok (.aload_n 0, 1) := by decide +kernel
theorem dX9_on_65 : decode cX9_on 65 = .ok (.getfield 67, 3) := by decide +kernel
theorem dX9_on_68 : decode cX9_on 68 = .ok (.getfield 197, 3) := by decide +kernel
theorem dX9_on_71 : decode cX9_on 71 = .ok (.getfield 201, 3) := by decide +kernel
theorem dX9_on_74 : decode cX9_on 74 = .ok (.ifCond .le 22, 3) := by decide +kernel
theorem dX9_on_77 : decode cX9_on 77 = .ok (.aload_n 0, 1) := by decide +kernel
theorem dX9_on_78 : decode cX9_on 78 = .ok (.getfield 67, 3) := by decide +kernel
theorem dX9_on_81 : decode cX9_on 81 = .ok (.getfield 197, 3) := by decide +kernel
theorem dX9_on_84 : decode cX9_on 84 = .ok (.getfield 247, 3) := by decide +kernel
theorem dX9_on_87 : decode cX9_on 87 = .ok (.iload_n 1, 1) := by decide +kernel
theorem dX9_on_88 : decode cX9_on 88 = .ok (.invokestatic 183, 3) := by decide +kernel
theorem dX9_on_91 : decode cX9_on 91 = .ok (.ifCond .eq 5, 3) := by decide +kernel
theorem dX9_on_94 : decode cX9_on 94 = .ok (.iconst 2, 1) := by decide +kernel
theorem dX9_on_95 : decode cX9_on 95 = .ok (.ireturn, 1) := by decide +kernel
theorem dX9_on_96 : decode cX9_on 96 = .ok (.aload_n 0, 1) := by decide +kernel
theorem dX9_on_97 : decode cX9_on 97 = .ok (.getfield 67, 3) := by decide +kernel
theorem dX9_on_100 : decode cX9_on 100 = .ok (.getfield 197, 3) := by decide +kernel
theorem dX9_on_103 : decode cX9_on 103 = .ok (.aload_n 0, 1) := by decide +kernel
theorem dX9_on_104 : decode cX9_on 104 = .ok (.getfield 49, 3) := by decide +kernel
theorem dX9_on_107 : decode cX9_on 107 = .ok (.getfield 250, 3) := by decide +kernel
theorem dX9_on_110 : decode cX9_on 110 = .ok (.invokevirtual 251, 3) := by decide +kernel
theorem dX9_on_113 : decode cX9_on 113 = .ok (.iload_n 1, 1) := by decide +kernel
theorem dX9_on_114 : decode cX9_on 114 = .ok (.invokestatic 183, 3) := by decide +kernel
theorem dX9_on_117 : decode cX9_on 117 = .ok (.ifCond .eq 7, 3) := by decide +kernel
theorem dX9_on_120 : decode cX9_on 120 = .ok (.iconst 1, 1) := by decide +kernel
theorem dX9_on_121 : decode cX9_on 121 = .ok (.goto 4, 3) := by decide +kernel
theorem dX9_on_124 : decode cX9_on 124 = .ok (.iconst 0, 1) := by decide +kernel
theorem dX9_on_125 : decode cX9_on 125 = .ok (.ireturn, 1) := by decide +kernel
def BX9_on_96 (I96 : Int32 → XT → YT → Prop) (Q : Int32 → XT → YT → Prop) (a1 : Int32) (X : XT) (Y : YT) : Prop :=
  PX7_inSome (X 31 3) X Y (fun r1 X2 Y3 => PX9_has r1 a1 X2 Y3 (fun r5 X6 Y7 => ((r5 = 0 → Q 0 X6 Y7) ∧ (¬ r5 = 0 → Q 1 X6 Y7))))
def BX9_on_s (I96 : Int32 → XT → YT → Prop) (Q : Int32 → XT → YT → Prop) (p0 : Int32) (X : XT) (Y : YT) : Prop :=
  PX1_isKnown p0 X Y (fun r1 X2 Y3 => ((¬ r1 = 0 → PX9_allBelow (X2 13 10) X2 Y3 (fun r6 X7 Y8 => PX0_shownOn r6 0 X7 Y8 (fun r10 X11 Y12 => PX9_has r10 p0 X11 Y12 (fun r14 X15 Y16 => ((r14 = 0 → PX9_goThrough 0 3000 X15 Y16 (fun X20 Y21 => (((X20 39 11) = 0 → (((X20 40 1) ≤ 0 → I96 p0 X20 Y21) ∧ (¬ (X20 40 1) ≤ 0 → PX9_has (X20 40 2) p0 X20 Y21 (fun r25 X26 Y27 => ((r25 = 0 → I96 p0 X26 Y27) ∧ (¬ r25 = 0 → Q 2 X26 Y27)))))) ∧ (¬ (X20 39 11) = 0 → Q (-1005) X20 Y21)))) ∧ (¬ r14 = 0 → Q 2 X15 Y16)))))) ∧ (r1 = 0 → Q (-1001) X2 Y3)))
def PX9_on (p0 : Int32) (X : XT) (Y : YT) (Q : Int32 → XT → YT → Prop) : Prop := ∀ (I96 : Int32 → XT → YT → Prop), (∀ (a1 : Int32) (X : XT) (Y : YT), BX9_on_96 I96 Q a1 X Y → I96 a1 X Y) → BX9_on_s I96 Q p0 X Y
set_option maxHeartbeats 4000000 in
set_option maxRecDepth 100000 in
theorem kX9_on_96 {Γ : Cxt} {Q : Int32 → XT → YT → Prop} (O : Ok Γ RX9 cX9_on 2 { frames := 5, cells := 0, slots := 0, locals := 116 }) (r : Ret Γ (some .int) (qI Q)) {I96 : Int32 → XT → YT → Prop} (e96 : ∀ (a1 : Int32) (X : XT) (Y : YT), I96 a1 X Y → V Γ 96 [(0, .ref 0), (1, .int a1)] [] X Y) {a1 : Int32} {X : XT} {Y : YT} (h : BX9_on_96 I96 Q a1 X Y) : V Γ 96 [(0, .ref 0), (1, .int a1)] [] X Y := by
  refine v_aload_n O dX9_on_96 rfl 0 rfl ?_
  refine v_get O dX9_on_97 fo_X9_67 sh_0 rfl rfl ?_
  refine v_get O dX9_on_100 fo_X9_197 sh_39 rfl rfl ?_
  refine v_aload_n O dX9_on_103 rfl 0 rfl ?_
  refine v_get O dX9_on_104 fo_X9_49 sh_0 rfl rfl ?_
  refine v_get O dX9_on_107 fo_X9_250 sh_31 rfl rfl ?_
  refine v_callV (rm' := { frames := 0, cells := 0, slots := 0, locals := 0 }) (As := [.int (X 31 3)]) (st := []) O dX9_on_110 ci_X7_inSome ml_X9_251 mi_X7_inSome sh_40 rfl ⟨rfl, rfl, (by decide), (by decide)⟩ rfl (Nat.le_of_ble_eq_true rfl) rfl (mX7_inSome h) (k_I (fun r1 X2 Y3 h4 => ?_))
  refine v_iload_n O dX9_on_113 rfl 1 rfl ?_
  refine v_callS (rm' := { frames := 0, cells := 0, slots := 0, locals := 0 }) (As := [.int r1, .int a1]) (st := []) O dX9_on_114 ci_X9_has ml_X9_183 ms_X9_has ⟨rfl, rfl, (by decide), (by decide)⟩ rfl (Nat.le_of_ble_eq_true rfl) rfl (mX9_has h4) (k_I (fun r5 X6 Y7 h8 => ?_))
  refine v_if_eq (tgt := 124) O dX9_on_117 (by decide) (fun g9 => ?_) (fun g9 => ?_)
  · refine v_iconst O dX9_on_124 kc_0 ?_
    exact v_iret O r dX9_on_125 ⟨_, rfl, (h8.1 g9)⟩
  · refine v_iconst O dX9_on_120 kc_1 ?_
    refine v_goto O dX9_on_121 (tgt := 125) (by decide) ?_
    exact v_iret O r dX9_on_125 ⟨_, rfl, (h8.2 g9)⟩
set_option maxHeartbeats 4000000 in
set_option maxRecDepth 100000 in
theorem kX9_on_s {Γ : Cxt} {Q : Int32 → XT → YT → Prop} (O : Ok Γ RX9 cX9_on 2 { frames := 5, cells := 0, slots := 0, locals := 116 }) (r : Ret Γ (some .int) (qI Q)) {I96 : Int32 → XT → YT → Prop} (e96 : ∀ (a1 : Int32) (X : XT) (Y : YT), I96 a1 X Y → V Γ 96 [(0, .ref 0), (1, .int a1)] [] X Y) {p0 : Int32} {X : XT} {Y : YT} (h : BX9_on_s I96 Q p0 X Y) : V Γ 0 [(0, .ref 0), (1, .int p0)] [] X Y := by
  refine v_aload_n O dX9_on_0 rfl 0 rfl ?_
  refine v_get O dX9_on_1 fo_X9_19 sh_0 rfl rfl ?_
  refine v_iload_n O dX9_on_4 rfl 1 rfl ?_
  refine v_callV (rm' := { frames := 1, cells := 0, slots := 0, locals := 22 }) (As := [.int p0]) (st := []) O dX9_on_5 ci_X1_isKnown ml_X9_100 mi_X1_isKnown sh_3 rfl ⟨rfl, rfl, (by decide), (by decide)⟩ rfl (Nat.le_of_ble_eq_true rfl) rfl (mX1_isKnown h) (k_I (fun r1 X2 Y3 h4 => ?_))
  refine v_if_ne (tgt := 15) O dX9_on_8 (by decide) (fun g5 => ?_) (fun g5 => ?_)
  · refine v_aload_n O dX9_on_15 rfl 0 rfl ?_
    refine v_get O dX9_on_16 fo_X9_58 sh_0 rfl rfl ?_
    refine v_aload_n O dX9_on_19 rfl 0 rfl ?_
    refine v_get O dX9_on_20 fo_X9_26 sh_0 rfl rfl ?_
    refine v_get O dX9_on_23 fo_X9_133 sh_13 rfl rfl ?_
    refine v_callS (rm' := { frames := 0, cells := 0, slots := 0, locals := 0 }) (As := [.int (X2 13 10)]) (st := [.ref 35]) O dX9_on_26 ci_X9_allBelow ml_X9_104 ms_X9_allBelow ⟨rfl, rfl, (by decide), (by decide)⟩ rfl (Nat.le_of_ble_eq_true rfl) rfl (mX9_allBelow (h4.1 g5)) (k_I (fun r6 X7 Y8 h9 => ?_))
    refine v_iconst O dX9_on_29 kc_0 ?_
    refine v_callV (rm' := { frames := 2, cells := 0, slots := 0, locals := 44 }) (As := [.int r6, .int 0]) (st := []) O dX9_on_30 ci_X0_shownOn ml_X9_244 mi_X0_shownOn sh_35 rfl ⟨rfl, rfl, (by decide), (by decide)⟩ rfl (Nat.le_of_ble_eq_true rfl) rfl (mX0_shownOn h9) (k_I (fun r10 X11 Y12 h13 => ?_))
    refine v_iload_n O dX9_on_33 rfl 1 rfl ?_
    refine v_callS (rm' := { frames := 0, cells := 0, slots := 0, locals := 0 }) (As := [.int r10, .int p0]) (st := []) O dX9_on_34 ci_X9_has ml_X9_183 ms_X9_has ⟨rfl, rfl, (by decide), (by decide)⟩ rfl (Nat.le_of_ble_eq_true rfl) rfl (mX9_has h13) (k_I (fun r14 X15 Y16 h17 => ?_))
    refine v_if_eq (tgt := 42) O dX9_on_37 (by decide) (fun g18 => ?_) (fun g18 => ?_)
    · refine v_aload_n O dX9_on_42 rfl 0 rfl ?_
      refine v_iconst O dX9_on_43 kc_0 ?_
      refine v_sipush O dX9_on_44 ks_3000 ?_
      refine v_callV (rm' := { frames := 4, cells := 0, slots := 0, locals := 93 }) (As := [.int 0, .int 3000]) (st := []) O dX9_on_47 ci_X9_goThrough ml_X9_194 mi_X9_goThrough sh_0 rfl ⟨rfl, rfl, (by decide), (by decide)⟩ rfl (Nat.le_of_ble_eq_true rfl) rfl (mX9_goThrough (h17.1 g18)) (k_V (fun X20 Y21 h22 => ?_))
      refine v_aload_n O dX9_on_50 rfl 0 rfl ?_
      refine v_get O dX9_on_51 fo_X9_67 sh_0 rfl rfl ?_
      refine v_get O dX9_on_54 fo_X9_209 sh_39 rfl rfl ?_
      refine v_if_eq (tgt := 64) O dX9_on_57 (by decide) (fun g23 => ?_) (fun g23 => ?_)
      · refine v_aload_n O dX9_on_64 rfl 0 rfl ?_
        refine v_get O dX9_on_65 fo_X9_67 sh_0 rfl rfl ?_
        refine v_get O dX9_on_68 fo_X9_197 sh_39 rfl rfl ?_
        refine v_get O dX9_on_71 fo_X9_201 sh_40 rfl rfl ?_
        refine v_if_le (tgt := 96) O dX9_on_74 (by decide) (fun g24 => ?_) (fun g24 => ?_)
        · exact v_loc [0, 1] rfl (e96 p0 X20 Y21 ((h22.1 g23).1 g24))
        · refine v_aload_n O dX9_on_77 rfl 0 rfl ?_
          refine v_get O dX9_on_78 fo_X9_67 sh_0 rfl rfl ?_
          refine v_get O dX9_on_81 fo_X9_197 sh_39 rfl rfl ?_
          refine v_get O dX9_on_84 fo_X9_247 sh_40 rfl rfl ?_
          refine v_iload_n O dX9_on_87 rfl 1 rfl ?_
          refine v_callS (rm' := { frames := 0, cells := 0, slots := 0, locals := 0 }) (As := [.int (X20 40 2), .int p0]) (st := []) O dX9_on_88 ci_X9_has ml_X9_183 ms_X9_has ⟨rfl, rfl, (by decide), (by decide)⟩ rfl (Nat.le_of_ble_eq_true rfl) rfl (mX9_has ((h22.1 g23).2 g24)) (k_I (fun r25 X26 Y27 h28 => ?_))
          refine v_if_eq (tgt := 96) O dX9_on_91 (by decide) (fun g29 => ?_) (fun g29 => ?_)
          · exact v_loc [0, 1] rfl (e96 p0 X26 Y27 (h28.1 g29))
          · refine v_iconst O dX9_on_94 kc_2 ?_
            exact v_iret O r dX9_on_95 ⟨_, rfl, (h28.2 g29)⟩
      · refine v_sipush O dX9_on_60 ks_m1005 ?_
        exact v_iret O r dX9_on_63 ⟨_, rfl, (h22.2 g23)⟩
    · refine v_iconst O dX9_on_40 kc_2 ?_
      exact v_iret O r dX9_on_41 ⟨_, rfl, (h17.2 g18)⟩
  · refine v_sipush O dX9_on_11 ks_m1001 ?_
    exact v_iret O r dX9_on_14 ⟨_, rfl, (h4.2 g5)⟩
set_option maxRecDepth 100000 in
theorem mX9_on {Γ : Cxt} {p0 : Int32} {X : XT} {Y : YT} {Q : Int32 → XT → YT → Prop} (h : PX9_on p0 X Y Q) : MT Γ yX9_on (.code yX9_on cX9_on 2 (some .int) :: wl) { frames := 5, cells := 0, slots := 0, locals := 116 } [.ref 0, .int p0] X Y (qI Q) :=
  mt_of (by decide) (Nat.le_of_ble_eq_true rfl) (fun Γ _ O r => kX9_on_s O r (fun _ _ _ g => g) (h (fun a1 X Y => V Γ 96 [(0, .ref 0), (1, .int a1)] [] X Y) (fun _ _ _ g => kX9_on_96 O r (fun _ _ _ g => g) g)))
theorem dX9_away_0 : decode cX9_away 0 = .ok (.iload_n 1, 1) := by decide +kernel
theorem dX9_away_1 : decode cX9_away 1 = .ok (.iconst 0, 1) := by decide +kernel
theorem dX9_away_2 : decode cX9_away 2 = .ok (.iconst 3, 1) := by decide +kernel
theorem dX9_away_3 : decode cX9_away 3 = .ok (.invokestatic 81, 3) := by decide +kernel
theorem dX9_away_6 : decode cX9_away 6 = .ok (.ifCond .eq 14, 3) := by decide +kernel
theorem dX9_away_9 : decode cX9_away 9 = .ok (.aload_n 0, 1) := by decide +kernel
theorem dX9_away_10 : decode cX9_away 10 = .ok (.getfield 19, 3) := by decide +kernel
theorem dX9_away_13 : decode cX9_away 13 = .ok (.iload_n 2, 1) := by decide +kernel
theorem dX9_away_14 : decode cX9_away 14 = .ok (.invokevirtual 254, 3) := by decide +kernel
theorem dX9_away_17 : decode cX9_away 17 = .ok (.ifCond .ne 7, 3) := by decide +kernel
theorem dX9_away_20 : decode cX9_away 20 = .ok (.sipush (-1001), 3) := by decide +kernel
theorem dX9_away_23 : decode cX9_away 23 = .ok (.ireturn, 1) := by decide +kernel
theorem dX9_away_24 : decode cX9_away 24 = .ok (.aload_n 0, 1) := by decide +kernel
theorem dX9_away_25 : decode cX9_away 25 = .ok (.getfield 42, 3) := by decide +kernel
theorem dX9_away_28 : decode cX9_away 28 = .ok (.getfield 257, 3) := by decide +kernel
theorem dX9_away_31 : decode cX9_away 31 = .ok (.iload_n 1, 1) := by decide +kernel
theorem dX9_away_32 : decode cX9_away 32 = .ok (.iaload, 1) := by decide +kernel
theorem dX9_away_33 : decode cX9_away 33 = .ok (.istore_n 3, 1) := by decide +kernel
theorem dX9_away_34 : decode cX9_away 34 = .ok (.aload_n 0, 1) := by decide +kernel
theorem dX9_away_35 : decode cX9_away 35 = .ok (.getfield 42, 3) := by decide +kernel
theorem dX9_away_38 : decode cX9_away 38 = .ok (.getfield 257, 3) := by decide +kernel
theorem dX9_away_41 : decode cX9_away 41 = .ok (.iload_n 1, 1) := by decide +kernel
theorem dX9_away_42 : decode cX9_away 42 = .ok (.iload_n 2, 1) := by decide +kernel
theorem dX9_away_43 : decode cX9_away 43 = .ok (.iastore, 1) := by decide +kernel
theorem dX9_away_44 : decode cX9_away 44 = .ok (.iload_n 3, 1) := by decide +kernel
theorem dX9_away_45 : decode cX9_away 45 = .ok (.ireturn, 1) := by decide +kernel
def BX9_away_s (Q : Int32 → XT → YT → Prop) (p0 : Int32) (p1 : Int32) (X : XT) (Y : YT) : Prop :=
  PX9_within p0 0 3 X Y (fun r1 X2 Y3 => ((r1 = 0 → Q (-1001) X2 Y3) ∧ (¬ r1 = 0 → PX1_areKnown p1 X2 Y3 (fun r6 X7 Y8 => ((¬ r6 = 0 → vp_in p0 4 ∧ ∀ w11 : Int32, w11 = (X7 29 p0.toNatClampNeg) → vp_in p0 4 ∧ Q w11 (sX X7 29 p0.toNatClampNeg p1) Y8) ∧ (r6 = 0 → Q (-1001) X7 Y8))))))
def PX9_away (p0 : Int32) (p1 : Int32) (X : XT) (Y : YT) (Q : Int32 → XT → YT → Prop) : Prop :=  BX9_away_s Q p0 p1 X Y
set_option maxHeartbeats 4000000 in
set_option maxRecDepth 100000 in
theorem kX9_away_s {Γ : Cxt} {Q : Int32 → XT → YT → Prop} (O : Ok Γ RX9 cX9_away 4 { frames := 2, cells := 0, slots := 0, locals := 41 }) (r : Ret Γ (some .int) (qI Q)) {p0 : Int32} {p1 : Int32} {X : XT} {Y : YT} (h : BX9_away_s Q p0 p1 X Y) : V Γ 0 [(0, .ref 0), (1, .int p0), (2, .int p1)] [] X Y := by
  refine v_iload_n O dX9_away_0 rfl 1 rfl ?_
  refine v_iconst O dX9_away_1 kc_0 ?_
  refine v_iconst O dX9_away_2 kc_3 ?_
  refine v_callS (rm' := { frames := 0, cells := 0, slots := 0, locals := 0 }) (As := [.int p0, .int 0, .int 3]) (st := []) O dX9_away_3 ci_X9_within ml_X9_81 ms_X9_within ⟨rfl, rfl, (by decide), (by decide)⟩ rfl (Nat.le_of_ble_eq_true rfl) rfl (mX9_within h) (k_I (fun r1 X2 Y3 h4 => ?_))
  refine v_if_eq (tgt := 20) O dX9_away_6 (by decide) (fun g5 => ?_) (fun g5 => ?_)
  · refine v_sipush O dX9_away_20 ks_m1001 ?_
    exact v_iret O r dX9_away_23 ⟨_, rfl, (h4.1 g5)⟩
  · refine v_aload_n O dX9_away_9 rfl 0 rfl ?_
    refine v_get O dX9_away_10 fo_X9_19 sh_0 rfl rfl ?_
    refine v_iload_n O dX9_away_13 rfl 2 rfl ?_
    refine v_callV (rm' := { frames := 1, cells := 0, slots := 0, locals := 20 }) (As := [.int p1]) (st := []) O dX9_away_14 ci_X1_areKnown ml_X9_254 mi_X1_areKnown sh_3 rfl ⟨rfl, rfl, (by decide), (by decide)⟩ rfl (Nat.le_of_ble_eq_true rfl) rfl (mX1_areKnown (h4.2 g5)) (k_I (fun r6 X7 Y8 h9 => ?_))
    refine v_if_ne (tgt := 24) O dX9_away_17 (by decide) (fun g10 => ?_) (fun g10 => ?_)
    · refine v_aload_n O dX9_away_24 rfl 0 rfl ?_
      refine v_get O dX9_away_25 fo_X9_42 sh_0 rfl rfl ?_
      refine v_get O dX9_away_28 fo_X9_257 sh_28 rfl rfl ?_
      refine v_iload_n O dX9_away_31 rfl 1 rfl ?_
      refine v_iald O dX9_away_32 sh_29 (h9.1 g10).1 ?_
      refine v_topi (fun w11 hw12 => ?_)
      refine v_istore_n (lv' := [(3, .int w11), (0, .ref 0), (1, .int p0), (2, .int p1)]) O dX9_away_33 rfl (by decide) rfl ?_
      refine v_aload_n O dX9_away_34 rfl 1 rfl ?_
      refine v_get O dX9_away_35 fo_X9_42 sh_0 rfl rfl ?_
      refine v_get O dX9_away_38 fo_X9_257 sh_28 rfl rfl ?_
      refine v_iload_n O dX9_away_41 rfl 2 rfl ?_
      refine v_iload_n O dX9_away_42 rfl 3 rfl ?_
      refine v_iast O dX9_away_43 sh_29 ((h9.1 g10).2 w11 hw12).1 ?_
      refine v_iload_n O dX9_away_44 rfl 0 rfl ?_
      exact v_iret O r dX9_away_45 ⟨_, rfl, ((h9.1 g10).2 w11 hw12).2⟩
    · refine v_sipush O dX9_away_20 ks_m1001 ?_
      exact v_iret O r dX9_away_23 ⟨_, rfl, (h9.2 g10)⟩
set_option maxRecDepth 100000 in
theorem mX9_away {Γ : Cxt} {p0 : Int32} {p1 : Int32} {X : XT} {Y : YT} {Q : Int32 → XT → YT → Prop} (h : PX9_away p0 p1 X Y Q) : MT Γ yX9_away (.code yX9_away cX9_away 4 (some .int) :: wl) { frames := 2, cells := 0, slots := 0, locals := 41 } [.ref 0, .int p0, .int p1] X Y (qI Q) :=
  mt_of (by decide) (Nat.le_of_ble_eq_true rfl) (fun Γ _ O r => kX9_away_s O r  (h ))
theorem dX9_knows_0 : decode cX9_knows 0 = .ok (.iload_n 1, 1) := by decide +kernel
theorem dX9_knows_1 : decode cX9_knows 1 = .ok (.iconst 0, 1) := by decide +kernel
theorem dX9_knows_2 : decode cX9_knows 2 = .ok (.iconst 3, 1) := by decide +kernel
theorem dX9_knows_3 : decode cX9_knows 3 = .ok (.invokestatic 81, 3) := by decide +kernel
theorem dX9_knows_6 : decode cX9_knows 6 = .ok (.ifCond .eq 30, 3) := by decide +kernel
theorem dX9_knows_9 : decode cX9_knows 9 = .ok (.aload_n 0, 1) := by decide +kernel
theorem dX9_knows_10 : decode cX9_knows 10 = .ok (.getfield 26, 3) := by decide +kernel
theorem dX9_knows_13 : decode cX9_knows 13 = .ok (.iload_n 2, 1) := by decide +kernel
theorem dX9_knows_14 : decode cX9_knows 14 = .ok (.invokevirtual 177, 3) := by decide +kernel
theorem dX9_knows_17 : decode cX9_knows 17 = .ok (.ifCond .eq 19, 3) := by decide +kernel
theorem dX9_knows_20 : decode cX9_knows 20 = .ok (.iload_n 3, 1) := by decide +kernel
theorem dX9_knows_21 : decode cX9_knows 21 = .ok (.iconst (-1), 1) := by decide +kernel
theorem dX9_knows_22 : decode cX9_knows 22 = .ok (.if_icmp .eq 18, 3) := by decide +kernel
theorem dX9_knows_25 : decode cX9_knows 25 = .ok (.aload_n 0, 1) := by decide +kernel
theorem dX9_knows_26 : decode cX9_knows 26 = .ok (.getfield 19, 3) := by decide +kernel
theorem dX9_knows_29 : decode cX9_knows 29 = .ok (.iload_n 3, 1) := by decide +kernel
theorem dX9_knows_30 : decode cX9_knows 30 = .ok (.invokevirtual 100, 3) := by decide +kernel
theorem dX9_knows_33 : decode cX9_knows 33 = .ok (.ifCond .ne 7, 3) := by decide +kernel
theorem dX9_knows_36 : decode cX9_knows 36 = .ok (.sipush (-1001), 3) := by decide +kernel
theorem dX9_knows_39 : decode cX9_knows 39 = .ok (.ireturn, 1) := by decide +kernel
theorem dX9_knows_40 : decode cX9_knows 40 = .ok (.aload_n 0, 1) := by decide +kernel
theorem dX9_knows_41 : decode cX9_knows 41 = .ok (.getfield 42, 3) := by decide +kernel
theorem dX9_knows_44 : decode cX9_knows 44 = .ok (.iload_n 1, 1) := by decide +kernel
theorem dX9_knows_45 : decode cX9_knows 45 = .ok (.iload_n 2, 1) := by decide +kernel
theorem dX9_knows_46 : decode cX9_knows 46 = .ok (.iload_n 3, 1) := by decide +kernel
theorem dX9_knows_47 : decode cX9_knows 47 = .ok (.invokevirtual 260, 3) := by decide +kernel
theorem dX9_knows_50 : decode cX9_knows 50 = .ok (.ireturn, 1) := by decide +kernel
def BX9_knows_40 (I40 : Int32 → Int32 → Int32 → XT → YT → Prop) (Q : Int32 → XT → YT → Prop) (a1 : Int32) (a2 : Int32) (a3 : Int32) (X : XT) (Y : YT) : Prop :=
  PX4_learn a1 a2 a3 X Y (fun r1 X2 Y3 => Q r1 X2 Y3)
def BX9_knows_s (I40 : Int32 → Int32 → Int32 → XT → YT → Prop) (Q : Int32 → XT → YT → Prop) (p0 : Int32) (p1 : Int32) (p2 : Int32) (X : XT) (Y : YT) : Prop :=
  PX9_within p0 0 3 X Y (fun r1 X2 Y3 => ((r1 = 0 → Q (-1001) X2 Y3) ∧ (¬ r1 = 0 → PX3_isBar p1 X2 Y3 (fun r6 X7 Y8 => ((r6 = 0 → Q (-1001) X7 Y8) ∧ (¬ r6 = 0 → ((p2 = (-1) → I40 p0 p1 p2 X7 Y8) ∧ (¬ p2 = (-1) → PX1_isKnown p2 X7 Y8 (fun r12 X13 Y14 => ((¬ r12 = 0 → I40 p0 p1 p2 X13 Y14) ∧ (r12 = 0 → Q (-1001) X13 Y14)))))))))))
def PX9_knows (p0 : Int32) (p1 : Int32) (p2 : Int32) (X : XT) (Y : YT) (Q : Int32 → XT → YT → Prop) : Prop := ∀ (I40 : Int32 → Int32 → Int32 → XT → YT → Prop), (∀ (a1 : Int32) (a2 : Int32) (a3 : Int32) (X : XT) (Y : YT), BX9_knows_40 I40 Q a1 a2 a3 X Y → I40 a1 a2 a3 X Y) → BX9_knows_s I40 Q p0 p1 p2 X Y
set_option maxHeartbeats 4000000 in
set_option maxRecDepth 100000 in
theorem kX9_knows_40 {Γ : Cxt} {Q : Int32 → XT → YT → Prop} (O : Ok Γ RX9 cX9_knows 4 { frames := 2, cells := 0, slots := 0, locals := 43 }) (r : Ret Γ (some .int) (qI Q)) {I40 : Int32 → Int32 → Int32 → XT → YT → Prop} (e40 : ∀ (a1 : Int32) (a2 : Int32) (a3 : Int32) (X : XT) (Y : YT), I40 a1 a2 a3 X Y → V Γ 40 [(0, .ref 0), (1, .int a1), (2, .int a2), (3, .int a3)] [] X Y) {a1 : Int32} {a2 : Int32} {a3 : Int32} {X : XT} {Y : YT} (h : BX9_knows_40 I40 Q a1 a2 a3 X Y) : V Γ 40 [(0, .ref 0), (1, .int a1), (2, .int a2), (3, .int a3)] [] X Y := by
  refine v_aload_n O dX9_knows_40 rfl 0 rfl ?_
  refine v_get O dX9_knows_41 fo_X9_42 sh_0 rfl rfl ?_
  refine v_iload_n O dX9_knows_44 rfl 1 rfl ?_
  refine v_iload_n O dX9_knows_45 rfl 2 rfl ?_
  refine v_iload_n O dX9_knows_46 rfl 3 rfl ?_
  refine v_callV (rm' := { frames := 0, cells := 0, slots := 0, locals := 0 }) (As := [.int a1, .int a2, .int a3]) (st := []) O dX9_knows_47 ci_X4_learn ml_X9_260 mi_X4_learn sh_28 rfl ⟨rfl, rfl, (by decide), (by decide)⟩ rfl (Nat.le_of_ble_eq_true rfl) rfl (mX4_learn h) (k_I (fun r1 X2 Y3 h4 => ?_))
  exact v_iret O r dX9_knows_50 ⟨_, rfl, h4⟩
set_option maxHeartbeats 4000000 in
set_option maxRecDepth 100000 in
theorem kX9_knows_s {Γ : Cxt} {Q : Int32 → XT → YT → Prop} (O : Ok Γ RX9 cX9_knows 4 { frames := 2, cells := 0, slots := 0, locals := 43 }) (r : Ret Γ (some .int) (qI Q)) {I40 : Int32 → Int32 → Int32 → XT → YT → Prop} (e40 : ∀ (a1 : Int32) (a2 : Int32) (a3 : Int32) (X : XT) (Y : YT), I40 a1 a2 a3 X Y → V Γ 40 [(0, .ref 0), (1, .int a1), (2, .int a2), (3, .int a3)] [] X Y) {p0 : Int32} {p1 : Int32} {p2 : Int32} {X : XT} {Y : YT} (h : BX9_knows_s I40 Q p0 p1 p2 X Y) : V Γ 0 [(0, .ref 0), (1, .int p0), (2, .int p1), (3, .int p2)] [] X Y := by
  refine v_iload_n O dX9_knows_0 rfl 1 rfl ?_
  refine v_iconst O dX9_knows_1 kc_0 ?_
  refine v_iconst O dX9_knows_2 kc_3 ?_
  refine v_callS (rm' := { frames := 0, cells := 0, slots := 0, locals := 0 }) (As := [.int p0, .int 0, .int 3]) (st := []) O dX9_knows_3 ci_X9_within ml_X9_81 ms_X9_within ⟨rfl, rfl, (by decide), (by decide)⟩ rfl (Nat.le_of_ble_eq_true rfl) rfl (mX9_within h) (k_I (fun r1 X2 Y3 h4 => ?_))
  refine v_if_eq (tgt := 36) O dX9_knows_6 (by decide) (fun g5 => ?_) (fun g5 => ?_)
  · refine v_sipush O dX9_knows_36 ks_m1001 ?_
    exact v_iret O r dX9_knows_39 ⟨_, rfl, (h4.1 g5)⟩
  · refine v_aload_n O dX9_knows_9 rfl 0 rfl ?_
    refine v_get O dX9_knows_10 fo_X9_26 sh_0 rfl rfl ?_
    refine v_iload_n O dX9_knows_13 rfl 2 rfl ?_
    refine v_callV (rm' := { frames := 1, cells := 0, slots := 0, locals := 22 }) (As := [.int p1]) (st := []) O dX9_knows_14 ci_X3_isBar ml_X9_177 mi_X3_isBar sh_13 rfl ⟨rfl, rfl, (by decide), (by decide)⟩ rfl (Nat.le_of_ble_eq_true rfl) rfl (mX3_isBar (h4.2 g5)) (k_I (fun r6 X7 Y8 h9 => ?_))
    refine v_if_eq (tgt := 36) O dX9_knows_17 (by decide) (fun g10 => ?_) (fun g10 => ?_)
    · refine v_sipush O dX9_knows_36 ks_m1001 ?_
      exact v_iret O r dX9_knows_39 ⟨_, rfl, (h9.1 g10)⟩
    · refine v_iload_n O dX9_knows_20 rfl 3 rfl ?_
      refine v_iconst O dX9_knows_21 kc_m1 ?_
      refine v_icmp_eq (tgt := 40) O dX9_knows_22 (by decide) (fun g11 => ?_) (fun g11 => ?_)
      · exact v_loc [0, 1, 2, 3] rfl (e40 p0 p1 p2 X7 Y8 ((h9.2 g10).1 g11))
      · refine v_aload_n O dX9_knows_25 rfl 0 rfl ?_
        refine v_get O dX9_knows_26 fo_X9_19 sh_0 rfl rfl ?_
        refine v_iload_n O dX9_knows_29 rfl 3 rfl ?_
        refine v_callV (rm' := { frames := 1, cells := 0, slots := 0, locals := 22 }) (As := [.int p2]) (st := []) O dX9_knows_30 ci_X1_isKnown ml_X9_100 mi_X1_isKnown sh_3 rfl ⟨rfl, rfl, (by decide), (by decide)⟩ rfl (Nat.le_of_ble_eq_true rfl) rfl (mX1_isKnown ((h9.2 g10).2 g11)) (k_I (fun r12 X13 Y14 h15 => ?_))
        refine v_if_ne (tgt := 40) O dX9_knows_33 (by decide) (fun g16 => ?_) (fun g16 => ?_)
        · exact v_loc [0, 1, 2, 3] rfl (e40 p0 p1 p2 X13 Y14 (h15.1 g16))
        · refine v_sipush O dX9_knows_36 ks_m1001 ?_
          exact v_iret O r dX9_knows_39 ⟨_, rfl, (h15.2 g16)⟩
set_option maxRecDepth 100000 in
theorem mX9_knows {Γ : Cxt} {p0 : Int32} {p1 : Int32} {p2 : Int32} {X : XT} {Y : YT} {Q : Int32 → XT → YT → Prop} (h : PX9_knows p0 p1 p2 X Y Q) : MT Γ yX9_knows (.code yX9_knows cX9_knows 4 (some .int) :: wl) { frames := 2, cells := 0, slots := 0, locals := 43 } [.ref 0, .int p0, .int p1, .int p2] X Y (qI Q) :=
  mt_of (by decide) (Nat.le_of_ble_eq_true rfl) (fun Γ _ O r => kX9_knows_s O r (fun _ _ _ _ _ g => g) (h (fun a1 a2 a3 X Y => V Γ 40 [(0, .ref 0), (1, .int a1), (2, .int a2), (3, .int a3)] [] X Y) (fun _ _ _ _ _ g => kX9_knows_40 O r (fun _ _ _ _ _ g => g) g)))
