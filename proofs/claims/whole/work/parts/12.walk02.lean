theorem dX2_takeNumber_0 : decode cX2_takeNumber 0 = .ok (.aload_n 0, 1) := by decide +kernel
theorem dX2_takeNumber_1 : decode cX2_takeNumber 1 = .ok (.invokevirtual 81, 3) := by decide +kernel
theorem dX2_takeNumber_4 : decode cX2_takeNumber 4 = .ok (.aload_n 0, 1) := by decide +kernel
theorem dX2_takeNumber_5 : decode cX2_takeNumber 5 = .ok (.getfield 29, 3) := by decide +kernel
theorem dX2_takeNumber_8 : decode cX2_takeNumber 8 = .ok (.istore_n 3, 1) := by decide +kernel
theorem dX2_takeNumber_9 : decode cX2_takeNumber 9 = .ok (.iconst 0, 1) := by decide +kernel
theorem dX2_takeNumber_10 : decode cX2_takeNumber 10 = .ok (.istore 4, 2) := by decide +kernel
theorem dX2_takeNumber_12 : decode cX2_takeNumber 12 = .ok (.aload_n 0, 1) := by decide +kernel
theorem dX2_takeNumber_13 : decode cX2_takeNumber 13 = .ok (.getfield 29, 3) := by decide +kernel
theorem dX2_takeNumber_16 : decode cX2_takeNumber 16 = .ok (.aload_n 0, 1) := by decide +kernel
theorem dX2_takeNumber_17 : decode cX2_takeNumber 17 = .ok (.getfield 21, 3) := by decide +kernel
theorem dX2_takeNumber_20 : decode cX2_takeNumber 20 = .ok (.getfield 75, 3) := by decide +kernel
theorem dX2_takeNumber_23 : decode cX2_takeNumber 23 = .ok (.if_icmp .ge 62, 3) := by decide +kernel
theorem dX2_takeNumber_26 : decode cX2_takeNumber 26 = .ok (.aload_n 0, 1) := by decide +kernel
theorem dX2_takeNumber_27 : decode cX2_takeNumber 27 = .ok (.getfield 21, 3) := by decide +kernel
theorem dX2_takeNumber_30 : decode cX2_takeNumber 30 = .ok (.aload_n 0, 1) := by decide +kernel
theorem dX2_takeNumber_31 : decode cX2_takeNumber 31 = .ok (.getfield 29, 3) := by decide +kernel
theorem dX2_takeNumber_34 : decode cX2_takeNumber 34 = .ok (.invokevirtual 101, 3) := by decide +kernel
theorem dX2_takeNumber_37 : decode cX2_takeNumber 37 = .ok (.ifCond .eq 48, 3) := by decide +kernel
theorem dX2_takeNumber_40 : decode cX2_takeNumber 40 = .ok (.aload_n 0, 1) := by decide +kernel
theorem dX2_takeNumber_41 : decode cX2_takeNumber 41 = .ok (.getfield 29, 3) := by decide +kernel
theorem dX2_takeNumber_44 : decode cX2_takeNumber 44 = .ok (.iload_n 3, 1) := by decide +kernel
theorem dX2_takeNumber_45 : decode cX2_takeNumber 45 = .ok (.isub, 1) := by decide +kernel
theorem dX2_takeNumber_46 : decode cX2_takeNumber 46 = .ok (.iconst 3, 1) := by decide +kernel
theorem dX2_takeNumber_47 : decode cX2_takeNumber 47 = .ok (.if_icmp .ge 25, 3) := by decide +kernel
theorem dX2_takeNumber_50 : decode cX2_takeNumber 50 = .ok (.iload 4, 2) := by decide +kernel
theorem dX2_takeNumber_52 : decode cX2_takeNumber 52 = .ok (.bipush 10, 2) := by decide +kernel
theorem dX2_takeNumber_54 : decode cX2_takeNumber 54 = .ok (.imul, 1) := by decide +kernel
theorem dX2_takeNumber_55 : decode cX2_takeNumber 55 = .ok (.aload_n 0, 1) := by decide +kernel
theorem dX2_takeNumber_56 : decode cX2_takeNumber 56 = .ok (.getfield 21, 3) := by decide +kernel
theorem dX2_takeNumber_59 : decode cX2_takeNumber 59 = .ok (.aload_n 0, 1) := by decide +kernel
theorem dX2_takeNumber_60 : decode cX2_takeNumber 60 = .ok (.getfield 29, 3) := by decide +kernel
theorem dX2_takeNumber_63 : decode cX2_takeNumber 63 = .ok (.invokevirtual 78, 3) := by decide +kernel
theorem dX2_takeNumber_66 : decode cX2_takeNumber 66 = .ok (.iadd, 1) := by decide +kernel
theorem dX2_takeNumber_67 : decode cX2_takeNumber 67 = .ok (.bipush 48, 2) := by decide +kernel
theorem dX2_takeNumber_69 : decode cX2_takeNumber 69 = .ok (.isub, 1) := by decide +kernel
theorem dX2_takeNumber_70 : decode cX2_takeNumber 70 = .ok (.istore 4, 2) := by decide +kernel
theorem dX2_takeNumber_72 : decode cX2_takeNumber 72 = .ok (.aload_n 0, 1) := by decide +kernel
theorem dX2_takeNumber_73 : decode cX2_takeNumber 73 = .ok (.dup, 1) := by decide +kernel
theorem dX2_takeNumber_74 : decode cX2_takeNumber 74 = .ok (.getfield 29, 3) := by decide +kernel
theorem dX2_takeNumber_77 : decode cX2_takeNumber 77 = .ok (.iconst 1, 1) := by decide +kernel
theorem dX2_takeNumber_78 : decode cX2_takeNumber 78 = .ok (.iadd, 1) := by decide +kernel
theorem dX2_takeNumber_79 : decode cX2_takeNumber 79 = .ok (.putfield 29, 3) := by decide +kernel
theorem dX2_takeNumber_82 : decode cX2_takeNumber 82 = .ok (.goto (-70), 3) := by decide +kernel
theorem dX2_takeNumber_85 : decode cX2_takeNumber 85 = .ok (.aload_n 0, 1) := by decide +kernel
theorem dX2_takeNumber_86 : decode cX2_takeNumber 86 = .ok (.getfield 29, 3) := by decide +kernel
theorem dX2_takeNumber_89 : decode cX2_takeNumber 89 = .ok (.iload_n 3, 1) := by decide +kernel
theorem dX2_takeNumber_90 : decode cX2_takeNumber 90 = .ok (.if_icmp .ne 15, 3) := by decide +kernel
theorem dX2_takeNumber_93 : decode cX2_takeNumber 93 = .ok (.aload_n 0, 1) := by decide +kernel
theorem dX2_takeNumber_94 : decode cX2_takeNumber 94 = .ok (.iconst 1, 1) := by decide +kernel
theorem dX2_takeNumber_95 : decode cX2_takeNumber 95 = .ok (.aload_n 0, 1) := by decide +kernel
theorem dX2_takeNumber_96 : decode cX2_takeNumber 96 = .ok (.getfield 29, 3) := by decide +kernel
theorem dX2_takeNumber_99 : decode cX2_takeNumber 99 = .ok (.invokevirtual 84, 3) := by decide +kernel
theorem dX2_takeNumber_102 : decode cX2_takeNumber 102 = .ok (.goto 29, 3) := by decide +kernel
theorem dX2_takeNumber_105 : decode cX2_takeNumber 105 = .ok (.aload_n 0, 1) := by decide +kernel
theorem dX2_takeNumber_106 : decode cX2_takeNumber 106 = .ok (.getfield 29, 3) := by decide +kernel
theorem dX2_takeNumber_109 : decode cX2_takeNumber 109 = .ok (.iload_n 3, 1) := by decide +kernel
theorem dX2_takeNumber_110 : decode cX2_takeNumber 110 = .ok (.isub, 1) := by decide +kernel
theorem dX2_takeNumber_111 : decode cX2_takeNumber 111 = .ok (.iconst 3, 1) := by decide +kernel
theorem dX2_takeNumber_112 : decode cX2_takeNumber 112 = .ok (.if_icmp .gt 13, 3) := by decide +kernel
theorem dX2_takeNumber_115 : decode cX2_takeNumber 115 = .ok (.iload 4, 2) := by decide +kernel
theorem dX2_takeNumber_117 : decode cX2_takeNumber 117 = .ok (.iload_n 1, 1) := by decide +kernel
theorem dX2_takeNumber_118 : decode cX2_takeNumber 118 = .ok (.iload_n 2, 1) := by decide +kernel
theorem dX2_takeNumber_119 : decode cX2_takeNumber 119 = .ok (.invokestatic 105, 3) := by decide +kernel
theorem dX2_takeNumber_122 : decode cX2_takeNumber 122 = .ok (.ifCond .ne 9, 3) := by decide +kernel
theorem dX2_takeNumber_125 : decode cX2_takeNumber 125 = .ok (.aload_n 0, 1) := by decide +kernel
theorem dX2_takeNumber_126 : decode cX2_takeNumber 126 = .ok (.iconst 2, 1) := by decide +kernel
theorem dX2_takeNumber_127 : decode cX2_takeNumber 127 = .ok (.iload_n 3, 1) := by decide +kernel
theorem dX2_takeNumber_128 : decode cX2_takeNumber 128 = .ok (.invokevirtual 84, 3) := by decide +kernel
theorem dX2_takeNumber_131 : decode cX2_takeNumber 131 = .ok (.iload 4, 2) := by decide +kernel
theorem dX2_takeNumber_133 : decode cX2_takeNumber 133 = .ok (.ireturn, 1) := by decide +kernel
def BX2_takeNumber_12 (I12 : Int32 → Int32 → Int32 → Int32 → XT → YT → Prop) (I85 : Int32 → Int32 → Int32 → Int32 → XT → YT → Prop) (I125 : Int32 → Int32 → XT → YT → Prop) (Q : Int32 → XT → YT → Prop) (a1 : Int32) (a2 : Int32) (a3 : Int32) (a4 : Int32) (X : XT) (Y : YT) : Prop :=
  (((X 1 1) ≤ (X 24 5) → I85 a1 a2 a3 a4 X Y) ∧ (¬ (X 1 1) ≤ (X 24 5) → PX8_isFigure (X 24 5) X Y (fun r2 X3 Y4 => ((r2 = 0 → I85 a1 a2 a3 a4 X3 Y4) ∧ (¬ r2 = 0 → ((3 ≤ ((X3 24 5) - a3) → I12 a1 a2 a3 a4 (sX X3 24 5 ((X3 24 5) + 1)) Y4) ∧ (¬ 3 ≤ ((X3 24 5) - a3) → PX8_at (X3 24 5) X3 Y4 (fun r8 X9 Y10 => ∀ w12 : Int32, w12 = (((a4 * 10) + r8) - 48) → I12 a1 a2 a3 w12 (sX X9 24 5 ((X9 24 5) + 1)) Y10))))))))
def BX2_takeNumber_85 (I12 : Int32 → Int32 → Int32 → Int32 → XT → YT → Prop) (I85 : Int32 → Int32 → Int32 → Int32 → XT → YT → Prop) (I125 : Int32 → Int32 → XT → YT → Prop) (Q : Int32 → XT → YT → Prop) (a1 : Int32) (a2 : Int32) (a3 : Int32) (a4 : Int32) (X : XT) (Y : YT) : Prop :=
  ((¬ (X 24 5) = a3 → ((3 < ((X 24 5) - a3) → I125 a3 a4 X Y) ∧ (¬ 3 < ((X 24 5) - a3) → PX9_within a4 a1 a2 X Y (fun r3 X4 Y5 => ((¬ r3 = 0 → Q a4 X4 Y5) ∧ (r3 = 0 → I125 a3 a4 X4 Y5)))))) ∧ ((X 24 5) = a3 → PX2_fail 1 (X 24 5) X Y (fun X9 Y10 => Q a4 X9 Y10)))
def BX2_takeNumber_125 (I12 : Int32 → Int32 → Int32 → Int32 → XT → YT → Prop) (I85 : Int32 → Int32 → Int32 → Int32 → XT → YT → Prop) (I125 : Int32 → Int32 → XT → YT → Prop) (Q : Int32 → XT → YT → Prop) (a3 : Int32) (a4 : Int32) (X : XT) (Y : YT) : Prop :=
  PX2_fail 2 a3 X Y (fun X2 Y3 => Q a4 X2 Y3)
def BX2_takeNumber_s (I12 : Int32 → Int32 → Int32 → Int32 → XT → YT → Prop) (I85 : Int32 → Int32 → Int32 → Int32 → XT → YT → Prop) (I125 : Int32 → Int32 → XT → YT → Prop) (Q : Int32 → XT → YT → Prop) (p0 : Int32) (p1 : Int32) (X : XT) (Y : YT) : Prop :=
  PX2_skipBlanks X Y (fun X2 Y3 => ∀ w5 : Int32, w5 = (X2 24 5) → I12 p0 p1 w5 0 X2 Y3)
def PX2_takeNumber (p0 : Int32) (p1 : Int32) (X : XT) (Y : YT) (Q : Int32 → XT → YT → Prop) : Prop := ∀ (I12 : Int32 → Int32 → Int32 → Int32 → XT → YT → Prop) (I85 : Int32 → Int32 → Int32 → Int32 → XT → YT → Prop) (I125 : Int32 → Int32 → XT → YT → Prop), (∀ (a1 : Int32) (a2 : Int32) (a3 : Int32) (a4 : Int32) (X : XT) (Y : YT), BX2_takeNumber_12 I12 I85 I125 Q a1 a2 a3 a4 X Y → I12 a1 a2 a3 a4 X Y) → (∀ (a1 : Int32) (a2 : Int32) (a3 : Int32) (a4 : Int32) (X : XT) (Y : YT), BX2_takeNumber_85 I12 I85 I125 Q a1 a2 a3 a4 X Y → I85 a1 a2 a3 a4 X Y) → (∀ (a3 : Int32) (a4 : Int32) (X : XT) (Y : YT), BX2_takeNumber_125 I12 I85 I125 Q a3 a4 X Y → I125 a3 a4 X Y) → BX2_takeNumber_s I12 I85 I125 Q p0 p1 X Y
set_option maxHeartbeats 4000000 in
set_option maxRecDepth 100000 in
theorem kX2_takeNumber_12 {Γ : Cxt} {Q : Int32 → XT → YT → Prop} (O : Ok Γ RX2 cX2_takeNumber 5 { frames := 2, cells := 0, slots := 0, locals := 43 }) (r : Ret Γ (some .int) (qI Q)) {I12 : Int32 → Int32 → Int32 → Int32 → XT → YT → Prop} {I85 : Int32 → Int32 → Int32 → Int32 → XT → YT → Prop} {I125 : Int32 → Int32 → XT → YT → Prop} (e12 : ∀ (a1 : Int32) (a2 : Int32) (a3 : Int32) (a4 : Int32) (X : XT) (Y : YT), I12 a1 a2 a3 a4 X Y → V Γ 12 [(0, .ref 24), (1, .int a1), (2, .int a2), (3, .int a3), (4, .int a4)] [] X Y) (e85 : ∀ (a1 : Int32) (a2 : Int32) (a3 : Int32) (a4 : Int32) (X : XT) (Y : YT), I85 a1 a2 a3 a4 X Y → V Γ 85 [(0, .ref 24), (1, .int a1), (2, .int a2), (3, .int a3), (4, .int a4)] [] X Y) (e125 : ∀ (a3 : Int32) (a4 : Int32) (X : XT) (Y : YT), I125 a3 a4 X Y → V Γ 125 [(0, .ref 24), (3, .int a3), (4, .int a4)] [] X Y) {a1 : Int32} {a2 : Int32} {a3 : Int32} {a4 : Int32} {X : XT} {Y : YT} (h : BX2_takeNumber_12 I12 I85 I125 Q a1 a2 a3 a4 X Y) : V Γ 12 [(0, .ref 24), (1, .int a1), (2, .int a2), (3, .int a3), (4, .int a4)] [] X Y := by
  refine v_aload_n O dX2_takeNumber_12 rfl 0 rfl ?_
  refine v_get O dX2_takeNumber_13 fo_X2_29 sh_24 rfl rfl ?_
  refine v_aload_n O dX2_takeNumber_16 rfl 0 rfl ?_
  refine v_get O dX2_takeNumber_17 fo_X2_21 sh_24 rfl rfl ?_
  refine v_get O dX2_takeNumber_20 fo_X2_75 sh_1 rfl rfl ?_
  refine v_icmp_ge (tgt := 85) O dX2_takeNumber_23 (by decide) (fun g1 => ?_) (fun g1 => ?_)
  · exact v_loc [0, 1, 2, 3, 4] rfl (e85 a1 a2 a3 a4 X Y (h.1 g1))
  · refine v_aload_n O dX2_takeNumber_26 rfl 0 rfl ?_
    refine v_get O dX2_takeNumber_27 fo_X2_21 sh_24 rfl rfl ?_
    refine v_aload_n O dX2_takeNumber_30 rfl 0 rfl ?_
    refine v_get O dX2_takeNumber_31 fo_X2_29 sh_24 rfl rfl ?_
    refine v_callV (rm' := { frames := 1, cells := 0, slots := 0, locals := 22 }) (As := [.int (X 24 5)]) (st := []) O dX2_takeNumber_34 ci_X8_isFigure ml_X2_101 mi_X8_isFigure sh_1 rfl ⟨rfl, rfl, (by decide), (by decide)⟩ rfl (Nat.le_of_ble_eq_true rfl) rfl (mX8_isFigure (h.2 g1)) (k_I (fun r2 X3 Y4 h5 => ?_))
    refine v_if_eq (tgt := 85) O dX2_takeNumber_37 (by decide) (fun g6 => ?_) (fun g6 => ?_)
    · exact v_loc [0, 1, 2, 3, 4] rfl (e85 a1 a2 a3 a4 X3 Y4 (h5.1 g6))
    · refine v_aload_n O dX2_takeNumber_40 rfl 0 rfl ?_
      refine v_get O dX2_takeNumber_41 fo_X2_29 sh_24 rfl rfl ?_
      refine v_iload_n O dX2_takeNumber_44 rfl 3 rfl ?_
      refine v_isub O dX2_takeNumber_45 ?_
      refine v_iconst O dX2_takeNumber_46 kc_3 ?_
      refine v_icmp_ge (tgt := 72) O dX2_takeNumber_47 (by decide) (fun g7 => ?_) (fun g7 => ?_)
      · refine v_aload_n O dX2_takeNumber_72 rfl 0 rfl ?_
        refine v_dup O dX2_takeNumber_73 rfl ?_
        refine v_get O dX2_takeNumber_74 fo_X2_29 sh_24 rfl rfl ?_
        refine v_iconst O dX2_takeNumber_77 kc_1 ?_
        refine v_iadd O dX2_takeNumber_78 ?_
        refine v_putI O dX2_takeNumber_79 fo_X2_29 fp_2_5 sh_24 rfl rfl rfl ?_
        refine v_goto O dX2_takeNumber_82 (tgt := 12) (by decide) ?_
        exact v_loc [0, 1, 2, 3, 4] rfl (e12 a1 a2 a3 a4 (sX X3 24 5 ((X3 24 5) + 1)) Y4 ((h5.2 g6).1 g7))
      · refine v_iload O dX2_takeNumber_50 4 rfl ?_
        refine v_bipush O dX2_takeNumber_52 kb_10 ?_
        refine v_imul O dX2_takeNumber_54 ?_
        refine v_aload_n O dX2_takeNumber_55 rfl 0 rfl ?_
        refine v_get O dX2_takeNumber_56 fo_X2_21 sh_24 rfl rfl ?_
        refine v_aload_n O dX2_takeNumber_59 rfl 0 rfl ?_
        refine v_get O dX2_takeNumber_60 fo_X2_29 sh_24 rfl rfl ?_
        refine v_callV (rm' := { frames := 0, cells := 0, slots := 0, locals := 0 }) (As := [.int (X3 24 5)]) (st := [.int (a4 * 10)]) O dX2_takeNumber_63 ci_X8_at ml_X2_78 mi_X8_at sh_1 rfl ⟨rfl, rfl, (by decide), (by decide)⟩ rfl (Nat.le_of_ble_eq_true rfl) rfl (mX8_at ((h5.2 g6).2 g7)) (k_I (fun r8 X9 Y10 h11 => ?_))
        refine v_iadd O dX2_takeNumber_66 ?_
        refine v_bipush O dX2_takeNumber_67 kb_48 ?_
        refine v_isub O dX2_takeNumber_69 ?_
        refine v_topi (fun w12 hw13 => ?_)
        refine v_istore (lv' := [(4, .int w12), (0, .ref 24), (1, .int a1), (2, .int a2), (3, .int a3)]) O dX2_takeNumber_70 (by decide) rfl ?_
        refine v_aload_n O dX2_takeNumber_72 rfl 1 rfl ?_
        refine v_dup O dX2_takeNumber_73 rfl ?_
        refine v_get O dX2_takeNumber_74 fo_X2_29 sh_24 rfl rfl ?_
        refine v_iconst O dX2_takeNumber_77 kc_1 ?_
        refine v_iadd O dX2_takeNumber_78 ?_
        refine v_putI O dX2_takeNumber_79 fo_X2_29 fp_2_5 sh_24 rfl rfl rfl ?_
        refine v_goto O dX2_takeNumber_82 (tgt := 12) (by decide) ?_
        exact v_loc [1, 2, 3, 4, 0] rfl (e12 a1 a2 a3 w12 (sX X9 24 5 ((X9 24 5) + 1)) Y10 (h11 w12 hw13))
set_option maxHeartbeats 4000000 in
set_option maxRecDepth 100000 in
theorem kX2_takeNumber_85 {Γ : Cxt} {Q : Int32 → XT → YT → Prop} (O : Ok Γ RX2 cX2_takeNumber 5 { frames := 2, cells := 0, slots := 0, locals := 43 }) (r : Ret Γ (some .int) (qI Q)) {I12 : Int32 → Int32 → Int32 → Int32 → XT → YT → Prop} {I85 : Int32 → Int32 → Int32 → Int32 → XT → YT → Prop} {I125 : Int32 → Int32 → XT → YT → Prop} (e12 : ∀ (a1 : Int32) (a2 : Int32) (a3 : Int32) (a4 : Int32) (X : XT) (Y : YT), I12 a1 a2 a3 a4 X Y → V Γ 12 [(0, .ref 24), (1, .int a1), (2, .int a2), (3, .int a3), (4, .int a4)] [] X Y) (e85 : ∀ (a1 : Int32) (a2 : Int32) (a3 : Int32) (a4 : Int32) (X : XT) (Y : YT), I85 a1 a2 a3 a4 X Y → V Γ 85 [(0, .ref 24), (1, .int a1), (2, .int a2), (3, .int a3), (4, .int a4)] [] X Y) (e125 : ∀ (a3 : Int32) (a4 : Int32) (X : XT) (Y : YT), I125 a3 a4 X Y → V Γ 125 [(0, .ref 24), (3, .int a3), (4, .int a4)] [] X Y) {a1 : Int32} {a2 : Int32} {a3 : Int32} {a4 : Int32} {X : XT} {Y : YT} (h : BX2_takeNumber_85 I12 I85 I125 Q a1 a2 a3 a4 X Y) : V Γ 85 [(0, .ref 24), (1, .int a1), (2, .int a2), (3, .int a3), (4, .int a4)] [] X Y := by
  refine v_aload_n O dX2_takeNumber_85 rfl 0 rfl ?_
  refine v_get O dX2_takeNumber_86 fo_X2_29 sh_24 rfl rfl ?_
  refine v_iload_n O dX2_takeNumber_89 rfl 3 rfl ?_
  refine v_icmp_ne (tgt := 105) O dX2_takeNumber_90 (by decide) (fun g1 => ?_) (fun g1 => ?_)
  · refine v_aload_n O dX2_takeNumber_105 rfl 0 rfl ?_
    refine v_get O dX2_takeNumber_106 fo_X2_29 sh_24 rfl rfl ?_
    refine v_iload_n O dX2_takeNumber_109 rfl 3 rfl ?_
    refine v_isub O dX2_takeNumber_110 ?_
    refine v_iconst O dX2_takeNumber_111 kc_3 ?_
    refine v_icmp_gt (tgt := 125) O dX2_takeNumber_112 (by decide) (fun g2 => ?_) (fun g2 => ?_)
    · exact v_loc [0, 3, 4] rfl (e125 a3 a4 X Y ((h.1 g1).1 g2))
    · refine v_iload O dX2_takeNumber_115 4 rfl ?_
      refine v_iload_n O dX2_takeNumber_117 rfl 1 rfl ?_
      refine v_iload_n O dX2_takeNumber_118 rfl 2 rfl ?_
      refine v_callN (rm' := { frames := 0, cells := 0, slots := 0, locals := 0 }) (As := [.int a4, .int a1, .int a2]) (st := []) O dX2_takeNumber_119 ci_X9_within ml_X2_105 ms_X9_within ⟨rfl, rfl, (by decide), (by decide)⟩ rfl (Nat.le_of_ble_eq_true rfl) rfl (mX9_within ((h.1 g1).2 g2)) (k_I (fun r3 X4 Y5 h6 => ?_))
      refine v_if_ne (tgt := 131) O dX2_takeNumber_122 (by decide) (fun g7 => ?_) (fun g7 => ?_)
      · refine v_iload O dX2_takeNumber_131 4 rfl ?_
        exact v_iret O r dX2_takeNumber_133 ⟨_, rfl, (h6.1 g7)⟩
      · exact v_loc [0, 3, 4] rfl (e125 a3 a4 X4 Y5 (h6.2 g7))
  · refine v_aload_n O dX2_takeNumber_93 rfl 0 rfl ?_
    refine v_iconst O dX2_takeNumber_94 kc_1 ?_
    refine v_aload_n O dX2_takeNumber_95 rfl 0 rfl ?_
    refine v_get O dX2_takeNumber_96 fo_X2_29 sh_24 rfl rfl ?_
    refine v_callV (rm' := { frames := 0, cells := 0, slots := 0, locals := 0 }) (As := [.int 1, .int (X 24 5)]) (st := []) O dX2_takeNumber_99 ci_X2_fail ml_X2_84 mi_X2_fail sh_24 rfl ⟨rfl, rfl, (by decide), (by decide)⟩ rfl (Nat.le_of_ble_eq_true rfl) rfl (mX2_fail (h.2 g1)) (k_V (fun X9 Y10 h11 => ?_))
    refine v_goto O dX2_takeNumber_102 (tgt := 131) (by decide) ?_
    refine v_iload O dX2_takeNumber_131 4 rfl ?_
    exact v_iret O r dX2_takeNumber_133 ⟨_, rfl, h11⟩
set_option maxHeartbeats 4000000 in
set_option maxRecDepth 100000 in
theorem kX2_takeNumber_125 {Γ : Cxt} {Q : Int32 → XT → YT → Prop} (O : Ok Γ RX2 cX2_takeNumber 5 { frames := 2, cells := 0, slots := 0, locals := 43 }) (r : Ret Γ (some .int) (qI Q)) {I12 : Int32 → Int32 → Int32 → Int32 → XT → YT → Prop} {I85 : Int32 → Int32 → Int32 → Int32 → XT → YT → Prop} {I125 : Int32 → Int32 → XT → YT → Prop} (e12 : ∀ (a1 : Int32) (a2 : Int32) (a3 : Int32) (a4 : Int32) (X : XT) (Y : YT), I12 a1 a2 a3 a4 X Y → V Γ 12 [(0, .ref 24), (1, .int a1), (2, .int a2), (3, .int a3), (4, .int a4)] [] X Y) (e85 : ∀ (a1 : Int32) (a2 : Int32) (a3 : Int32) (a4 : Int32) (X : XT) (Y : YT), I85 a1 a2 a3 a4 X Y → V Γ 85 [(0, .ref 24), (1, .int a1), (2, .int a2), (3, .int a3), (4, .int a4)] [] X Y) (e125 : ∀ (a3 : Int32) (a4 : Int32) (X : XT) (Y : YT), I125 a3 a4 X Y → V Γ 125 [(0, .ref 24), (3, .int a3), (4, .int a4)] [] X Y) {a3 : Int32} {a4 : Int32} {X : XT} {Y : YT} (h : BX2_takeNumber_125 I12 I85 I125 Q a3 a4 X Y) : V Γ 125 [(0, .ref 24), (3, .int a3), (4, .int a4)] [] X Y := by
  refine v_aload_n O dX2_takeNumber_125 rfl 0 rfl ?_
  refine v_iconst O dX2_takeNumber_126 kc_2 ?_
  refine v_iload_n O dX2_takeNumber_127 rfl 1 rfl ?_
  refine v_callV (rm' := { frames := 0, cells := 0, slots := 0, locals := 0 }) (As := [.int 2, .int a3]) (st := []) O dX2_takeNumber_128 ci_X2_fail ml_X2_84 mi_X2_fail sh_24 rfl ⟨rfl, rfl, (by decide), (by decide)⟩ rfl (Nat.le_of_ble_eq_true rfl) rfl (mX2_fail h) (k_V (fun X2 Y3 h4 => ?_))
  refine v_iload O dX2_takeNumber_131 2 rfl ?_
  exact v_iret O r dX2_takeNumber_133 ⟨_, rfl, h4⟩
set_option maxHeartbeats 4000000 in
set_option maxRecDepth 100000 in
theorem kX2_takeNumber_s {Γ : Cxt} {Q : Int32 → XT → YT → Prop} (O : Ok Γ RX2 cX2_takeNumber 5 { frames := 2, cells := 0, slots := 0, locals := 43 }) (r : Ret Γ (some .int) (qI Q)) {I12 : Int32 → Int32 → Int32 → Int32 → XT → YT → Prop} {I85 : Int32 → Int32 → Int32 → Int32 → XT → YT → Prop} {I125 : Int32 → Int32 → XT → YT → Prop} (e12 : ∀ (a1 : Int32) (a2 : Int32) (a3 : Int32) (a4 : Int32) (X : XT) (Y : YT), I12 a1 a2 a3 a4 X Y → V Γ 12 [(0, .ref 24), (1, .int a1), (2, .int a2), (3, .int a3), (4, .int a4)] [] X Y) (e85 : ∀ (a1 : Int32) (a2 : Int32) (a3 : Int32) (a4 : Int32) (X : XT) (Y : YT), I85 a1 a2 a3 a4 X Y → V Γ 85 [(0, .ref 24), (1, .int a1), (2, .int a2), (3, .int a3), (4, .int a4)] [] X Y) (e125 : ∀ (a3 : Int32) (a4 : Int32) (X : XT) (Y : YT), I125 a3 a4 X Y → V Γ 125 [(0, .ref 24), (3, .int a3), (4, .int a4)] [] X Y) {p0 : Int32} {p1 : Int32} {X : XT} {Y : YT} (h : BX2_takeNumber_s I12 I85 I125 Q p0 p1 X Y) : V Γ 0 [(0, .ref 24), (1, .int p0), (2, .int p1)] [] X Y := by
  refine v_aload_n O dX2_takeNumber_0 rfl 0 rfl ?_
  refine v_callV (rm' := { frames := 1, cells := 0, slots := 0, locals := 21 }) (As := []) (st := []) O dX2_takeNumber_1 ci_X2_skipBlanks ml_X2_81 mi_X2_skipBlanks sh_24 rfl ⟨rfl, rfl, (by decide), (by decide)⟩ rfl (Nat.le_of_ble_eq_true rfl) rfl (mX2_skipBlanks h) (k_V (fun X2 Y3 h4 => ?_))
  refine v_aload_n O dX2_takeNumber_4 rfl 0 rfl ?_
  refine v_get O dX2_takeNumber_5 fo_X2_29 sh_24 rfl rfl ?_
  refine v_topi (fun w5 hw6 => ?_)
  refine v_istore_n (lv' := [(3, .int w5), (0, .ref 24), (1, .int p0), (2, .int p1)]) O dX2_takeNumber_8 rfl (by decide) rfl ?_
  refine v_iconst O dX2_takeNumber_9 kc_0 ?_
  refine v_istore (lv' := [(4, .int 0), (3, .int w5), (0, .ref 24), (1, .int p0), (2, .int p1)]) O dX2_takeNumber_10 (by decide) rfl ?_
  exact v_loc [2, 3, 4, 1, 0] rfl (e12 p0 p1 w5 0 X2 Y3 (h4 w5 hw6))
set_option maxRecDepth 100000 in
theorem mX2_takeNumber {Γ : Cxt} {p0 : Int32} {p1 : Int32} {X : XT} {Y : YT} {Q : Int32 → XT → YT → Prop} (h : PX2_takeNumber p0 p1 X Y Q) : MT Γ yX2_takeNumber (.code yX2_takeNumber cX2_takeNumber 5 (some .int) :: wl) { frames := 2, cells := 0, slots := 0, locals := 43 } [.ref 24, .int p0, .int p1] X Y (qI Q) :=
  mt_of (by decide) (Nat.le_of_ble_eq_true rfl) (fun Γ _ O r => kX2_takeNumber_s O r (fun _ _ _ _ _ _ g => g) (fun _ _ _ _ _ _ g => g) (fun _ _ _ _ g => g) (h (fun a1 a2 a3 a4 X Y => V Γ 12 [(0, .ref 24), (1, .int a1), (2, .int a2), (3, .int a3), (4, .int a4)] [] X Y) (fun a1 a2 a3 a4 X Y => V Γ 85 [(0, .ref 24), (1, .int a1), (2, .int a2), (3, .int a3), (4, .int a4)] [] X Y) (fun a3 a4 X Y => V Γ 125 [(0, .ref 24), (3, .int a3), (4, .int a4)] [] X Y) (fun _ _ _ _ _ _ g => kX2_takeNumber_12 O r (fun _ _ _ _ _ _ g => g) (fun _ _ _ _ _ _ g => g) (fun _ _ _ _ g => g) g) (fun _ _ _ _ _ _ g => kX2_takeNumber_85 O r (fun _ _ _ _ _ _ g => g) (fun _ _ _ _ _ _ g => g) (fun _ _ _ _ g => g) g) (fun _ _ _ _ g => kX2_takeNumber_125 O r (fun _ _ _ _ _ _ g => g) (fun _ _ _ _ _ _ g => g) (fun _ _ _ _ g => g) g)))
theorem dX2_takeBar_0 : decode cX2_takeBar 0 = .ok (.aload_n 0, 1) := by decide +kernel
theorem dX2_takeBar_1 : decode cX2_takeBar 1 = .ok (.getfield 42, 3) := by decide +kernel
theorem dX2_takeBar_4 : decode cX2_takeBar 4 = .ok (.bipush 10, 2) := by decide +kernel
theorem dX2_takeBar_6 : decode cX2_takeBar 6 = .ok (.if_icmp .lt 13, 3) := by decide +kernel
theorem dX2_takeBar_9 : decode cX2_takeBar 9 = .ok (.aload_n 0, 1) := by decide +kernel
theorem dX2_takeBar_10 : decode cX2_takeBar 10 = .ok (.iconst 5, 1) := by decide +kernel
theorem dX2_takeBar_11 : decode cX2_takeBar 11 = .ok (.aload_n 0, 1) := by decide +kernel
theorem dX2_takeBar_12 : decode cX2_takeBar 12 = .ok (.getfield 29, 3) := by decide +kernel
theorem dX2_takeBar_15 : decode cX2_takeBar 15 = .ok (.invokevirtual 84, 3) := by decide +kernel
theorem dX2_takeBar_18 : decode cX2_takeBar 18 = .ok (.return_, 1) := by decide +kernel
theorem dX2_takeBar_19 : decode cX2_takeBar 19 = .ok (.aload_n 0, 1) := by decide +kernel
theorem dX2_takeBar_20 : decode cX2_takeBar 20 = .ok (.dup, 1) := by decide +kernel
theorem dX2_takeBar_21 : decode cX2_takeBar 21 = .ok (.getfield 42, 3) := by decide +kernel
theorem dX2_takeBar_24 : decode cX2_takeBar 24 = .ok (.iconst 1, 1) := by decide +kernel
theorem dX2_takeBar_25 : decode cX2_takeBar 25 = .ok (.iadd, 1) := by decide +kernel
theorem dX2_takeBar_26 : decode cX2_takeBar 26 = .ok (.putfield 42, 3) := by decide +kernel
theorem dX2_takeBar_29 : decode cX2_takeBar 29 = .ok (.aload_n 0, 1) := by decide +kernel
theorem dX2_takeBar_30 : decode cX2_takeBar 30 = .ok (.dup, 1) := by decide +kernel
theorem dX2_takeBar_31 : decode cX2_takeBar 31 = .ok (.getfield 29, 3) := by decide +kernel
theorem dX2_takeBar_34 : decode cX2_takeBar 34 = .ok (.iconst 1, 1) := by decide +kernel
theorem dX2_takeBar_35 : decode cX2_takeBar 35 = .ok (.iadd, 1) := by decide +kernel
theorem dX2_takeBar_36 : decode cX2_takeBar 36 = .ok (.putfield 29, 3) := by decide +kernel
theorem dX2_takeBar_39 : decode cX2_takeBar 39 = .ok (.aload_n 0, 1) := by decide +kernel
theorem dX2_takeBar_40 : decode cX2_takeBar 40 = .ok (.getfield 15, 3) := by decide +kernel
theorem dX2_takeBar_43 : decode cX2_takeBar 43 = .ok (.iload_n 1, 1) := by decide +kernel
theorem dX2_takeBar_44 : decode cX2_takeBar 44 = .ok (.iconst (-1), 1) := by decide +kernel
theorem dX2_takeBar_45 : decode cX2_takeBar 45 = .ok (.iastore, 1) := by decide +kernel
theorem dX2_takeBar_46 : decode cX2_takeBar 46 = .ok (.aload_n 0, 1) := by decide +kernel
theorem dX2_takeBar_47 : decode cX2_takeBar 47 = .ok (.getfield 18, 3) := by decide +kernel
theorem dX2_takeBar_50 : decode cX2_takeBar 50 = .ok (.iload_n 1, 1) := by decide +kernel
theorem dX2_takeBar_51 : decode cX2_takeBar 51 = .ok (.aload_n 0, 1) := by decide +kernel
theorem dX2_takeBar_52 : decode cX2_takeBar 52 = .ok (.iconst 1, 1) := by decide +kernel
theorem dX2_takeBar_53 : decode cX2_takeBar 53 = .ok (.sipush 200, 3) := by decide +kernel
theorem dX2_takeBar_56 : decode cX2_takeBar 56 = .ok (.invokevirtual 54, 3) := by decide +kernel
theorem dX2_takeBar_59 : decode cX2_takeBar 59 = .ok (.iastore, 1) := by decide +kernel
theorem dX2_takeBar_60 : decode cX2_takeBar 60 = .ok (.aload_n 0, 1) := by decide +kernel
theorem dX2_takeBar_61 : decode cX2_takeBar 61 = .ok (.bipush 93, 2) := by decide +kernel
theorem dX2_takeBar_63 : decode cX2_takeBar 63 = .ok (.invokevirtual 64, 3) := by decide +kernel
theorem dX2_takeBar_66 : decode cX2_takeBar 66 = .ok (.return_, 1) := by decide +kernel
def BX2_takeBar_s (Q : XT → YT → Prop) (p0 : Int32) (X : XT) (Y : YT) : Prop :=
  (((X 24 11) < 10 → ∀ X2 : XT, X2 = sX (sX X 24 11 ((X 24 11) + 1)) 24 5 (((sX X 24 11 ((X 24 11) + 1)) 24 5) + 1) → vp_in p0 4 ∧ PX2_takeNumber 1 200 (sX X2 26 p0.toNatClampNeg (-1)) Y (fun r4 X5 Y6 => vp_in p0 4 ∧ PX2_takeSign 93 (sX X5 27 p0.toNatClampNeg r4) Y6 (fun X9 Y10 => Q X9 Y10))) ∧ (¬ (X 24 11) < 10 → PX2_fail 5 (X 24 5) X Y (fun X13 Y14 => Q X13 Y14)))
def PX2_takeBar (p0 : Int32) (X : XT) (Y : YT) (Q : XT → YT → Prop) : Prop :=  BX2_takeBar_s Q p0 X Y
set_option maxHeartbeats 4000000 in
set_option maxRecDepth 100000 in
theorem kX2_takeBar_s {Γ : Cxt} {Q : XT → YT → Prop} (O : Ok Γ RX2 cX2_takeBar 2 { frames := 3, cells := 0, slots := 0, locals := 67 }) (r : Ret Γ none (qV Q)) {p0 : Int32} {X : XT} {Y : YT} (h : BX2_takeBar_s Q p0 X Y) : V Γ 0 [(0, .ref 24), (1, .int p0)] [] X Y := by
  refine v_aload_n O dX2_takeBar_0 rfl 0 rfl ?_
  refine v_get O dX2_takeBar_1 fo_X2_42 sh_24 rfl rfl ?_
  refine v_bipush O dX2_takeBar_4 kb_10 ?_
  refine v_icmp_lt (tgt := 19) O dX2_takeBar_6 (by decide) (fun g1 => ?_) (fun g1 => ?_)
  · refine v_aload_n O dX2_takeBar_19 rfl 0 rfl ?_
    refine v_dup O dX2_takeBar_20 rfl ?_
    refine v_get O dX2_takeBar_21 fo_X2_42 sh_24 rfl rfl ?_
    refine v_iconst O dX2_takeBar_24 kc_1 ?_
    refine v_iadd O dX2_takeBar_25 ?_
    refine v_putI O dX2_takeBar_26 fo_X2_42 fp_2_11 sh_24 rfl rfl rfl ?_
    refine v_aload_n O dX2_takeBar_29 rfl 0 rfl ?_
    refine v_dup O dX2_takeBar_30 rfl ?_
    refine v_get O dX2_takeBar_31 fo_X2_29 sh_24 rfl rfl ?_
    refine v_iconst O dX2_takeBar_34 kc_1 ?_
    refine v_iadd O dX2_takeBar_35 ?_
    refine v_putI O dX2_takeBar_36 fo_X2_29 fp_2_5 sh_24 rfl rfl rfl ?_
    refine v_nmX (fun X2 hX3 => ?_)
    refine v_aload_n O dX2_takeBar_39 rfl 0 rfl ?_
    refine v_get O dX2_takeBar_40 fo_X2_15 sh_24 rfl rfl ?_
    refine v_iload_n O dX2_takeBar_43 rfl 1 rfl ?_
    refine v_iconst O dX2_takeBar_44 kc_m1 ?_
    refine v_iast O dX2_takeBar_45 sh_26 ((h.1 g1) X2 hX3).1 ?_
    refine v_aload_n O dX2_takeBar_46 rfl 0 rfl ?_
    refine v_get O dX2_takeBar_47 fo_X2_18 sh_24 rfl rfl ?_
    refine v_iload_n O dX2_takeBar_50 rfl 1 rfl ?_
    refine v_aload_n O dX2_takeBar_51 rfl 0 rfl ?_
    refine v_iconst O dX2_takeBar_52 kc_1 ?_
    refine v_sipush O dX2_takeBar_53 ks_200 ?_
    refine v_callV (rm' := { frames := 2, cells := 0, slots := 0, locals := 43 }) (As := [.int 1, .int 200]) (st := [.int p0, .ref 27]) O dX2_takeBar_56 ci_X2_takeNumber ml_X2_54 mi_X2_takeNumber sh_24 rfl ⟨rfl, rfl, (by decide), (by decide)⟩ rfl (Nat.le_of_ble_eq_true rfl) rfl (mX2_takeNumber ((h.1 g1) X2 hX3).2) (k_I (fun r4 X5 Y6 h7 => ?_))
    refine v_iast O dX2_takeBar_59 sh_27 h7.1 ?_
    refine v_aload_n O dX2_takeBar_60 rfl 0 rfl ?_
    refine v_bipush O dX2_takeBar_61 kb_93 ?_
    refine v_callV (rm' := { frames := 2, cells := 0, slots := 0, locals := 41 }) (As := [.int 93]) (st := []) O dX2_takeBar_63 ci_X2_takeSign ml_X2_64 mi_X2_takeSign sh_24 rfl ⟨rfl, rfl, (by decide), (by decide)⟩ rfl (Nat.le_of_ble_eq_true rfl) rfl (mX2_takeSign h7.2) (k_V (fun X9 Y10 h11 => ?_))
    exact v_vret O r dX2_takeBar_66 ⟨rfl, h11⟩
  · refine v_aload_n O dX2_takeBar_9 rfl 0 rfl ?_
    refine v_iconst O dX2_takeBar_10 kc_5 ?_
    refine v_aload_n O dX2_takeBar_11 rfl 0 rfl ?_
    refine v_get O dX2_takeBar_12 fo_X2_29 sh_24 rfl rfl ?_
    refine v_callV (rm' := { frames := 0, cells := 0, slots := 0, locals := 0 }) (As := [.int 5, .int (X 24 5)]) (st := []) O dX2_takeBar_15 ci_X2_fail ml_X2_84 mi_X2_fail sh_24 rfl ⟨rfl, rfl, (by decide), (by decide)⟩ rfl (Nat.le_of_ble_eq_true rfl) rfl (mX2_fail (h.2 g1)) (k_V (fun X13 Y14 h15 => ?_))
    exact v_vret O r dX2_takeBar_18 ⟨rfl, h15⟩
set_option maxRecDepth 100000 in
theorem mX2_takeBar {Γ : Cxt} {p0 : Int32} {X : XT} {Y : YT} {Q : XT → YT → Prop} (h : PX2_takeBar p0 X Y Q) : MT Γ yX2_takeBar (.code yX2_takeBar cX2_takeBar 2 none :: wl) { frames := 3, cells := 0, slots := 0, locals := 67 } [.ref 24, .int p0] X Y (qV Q) :=
  mt_of (by decide) (Nat.le_of_ble_eq_true rfl) (fun Γ _ O r => kX2_takeBar_s O r  (h ))
theorem dX2_takeShown_0 : decode cX2_takeShown 0 = .ok (.aload_n 0, 1) := by decide +kernel
theorem dX2_takeShown_1 : decode cX2_takeShown 1 = .ok (.getfield 21, 3) := by decide +kernel
theorem dX2_takeShown_4 : decode cX2_takeShown 4 = .ok (.aload_n 0, 1) := by decide +kernel
theorem dX2_takeShown_5 : decode cX2_takeShown 5 = .ok (.getfield 29, 3) := by decide +kernel
theorem dX2_takeShown_8 : decode cX2_takeShown 8 = .ok (.invokevirtual 88, 3) := by decide +kernel
theorem dX2_takeShown_11 : decode cX2_takeShown 11 = .ok (.istore_n 2, 1) := by decide +kernel
theorem dX2_takeShown_12 : decode cX2_takeShown 12 = .ok (.aload_n 0, 1) := by decide +kernel
theorem dX2_takeShown_13 : decode cX2_takeShown 13 = .ok (.getfield 25, 3) := by decide +kernel
theorem dX2_takeShown_16 : decode cX2_takeShown 16 = .ok (.aload_n 0, 1) := by decide +kernel
theorem dX2_takeShown_17 : decode cX2_takeShown 17 = .ok (.getfield 21, 3) := by decide +kernel
theorem dX2_takeShown_20 : decode cX2_takeShown 20 = .ok (.aload_n 0, 1) := by decide +kernel
theorem dX2_takeShown_21 : decode cX2_takeShown 21 = .ok (.getfield 29, 3) := by decide +kernel
theorem dX2_takeShown_24 : decode cX2_takeShown 24 = .ok (.iload_n 2, 1) := by decide +kernel
theorem dX2_takeShown_25 : decode cX2_takeShown 25 = .ok (.invokevirtual 120, 3) := by decide +kernel
theorem dX2_takeShown_28 : decode cX2_takeShown 28 = .ok (.istore_n 3, 1) := by decide +kernel
theorem dX2_takeShown_29 : decode cX2_takeShown 29 = .ok (.iload_n 3, 1) := by decide +kernel
theorem dX2_takeShown_30 : decode cX2_takeShown 30 = .ok (.iconst (-1), 1) := by decide +kernel
theorem dX2_takeShown_31 : decode cX2_takeShown 31 = .ok (.if_icmp .eq 14, 3) := by decide +kernel
theorem dX2_takeShown_34 : decode cX2_takeShown 34 = .ok (.aload_n 0, 1) := by decide +kernel
theorem dX2_takeShown_35 : decode cX2_takeShown 35 = .ok (.getfield 45, 3) := by decide +kernel
theorem dX2_takeShown_38 : decode cX2_takeShown 38 = .ok (.iload_n 3, 1) := by decide +kernel
theorem dX2_takeShown_39 : decode cX2_takeShown 39 = .ok (.invokestatic 126, 3) := by decide +kernel
theorem dX2_takeShown_42 : decode cX2_takeShown 42 = .ok (.ifCond .eq 13, 3) := by decide +kernel
theorem dX2_takeShown_45 : decode cX2_takeShown 45 = .ok (.aload_n 0, 1) := by decide +kernel
theorem dX2_takeShown_46 : decode cX2_takeShown 46 = .ok (.iconst 3, 1) := by decide +kernel
theorem dX2_takeShown_47 : decode cX2_takeShown 47 = .ok (.aload_n 0, 1) := by decide +kernel
theorem dX2_takeShown_48 : decode cX2_takeShown 48 = .ok (.getfield 29, 3) := by decide +kernel
theorem dX2_takeShown_51 : decode cX2_takeShown 51 = .ok (.invokevirtual 84, 3) := by decide +kernel
theorem dX2_takeShown_54 : decode cX2_takeShown 54 = .ok (.return_, 1) := by decide +kernel
theorem dX2_takeShown_55 : decode cX2_takeShown 55 = .ok (.aload_n 0, 1) := by decide +kernel
theorem dX2_takeShown_56 : decode cX2_takeShown 56 = .ok (.dup, 1) := by decide +kernel
theorem dX2_takeShown_57 : decode cX2_takeShown 57 = .ok (.getfield 45, 3) := by decide +kernel
theorem dX2_takeShown_60 : decode cX2_takeShown 60 = .ok (.iconst 1, 1) := by decide +kernel
theorem dX2_takeShown_61 : decode cX2_takeShown 61 = .ok (.iload_n 3, 1) := by decide +kernel
theorem dX2_takeShown_62 : decode cX2_takeShown 62 = .ok (.ishl, 1) := by decide +kernel
theorem dX2_takeShown_63 : decode cX2_takeShown 63 = .ok (.ior, 1) := by decide +kernel
theorem dX2_takeShown_64 : decode cX2_takeShown 64 = .ok (.putfield 45, 3) := by decide +kernel
theorem dX2_takeShown_67 : decode cX2_takeShown 67 = .ok (.aload_n 0, 1) := by decide +kernel
theorem dX2_takeShown_68 : decode cX2_takeShown 68 = .ok (.getfield 15, 3) := by decide +kernel
theorem dX2_takeShown_71 : decode cX2_takeShown 71 = .ok (.iload_n 1, 1) := by decide +kernel
theorem dX2_takeShown_72 : decode cX2_takeShown 72 = .ok (.iload_n 3, 1) := by decide +kernel
theorem dX2_takeShown_73 : decode cX2_takeShown 73 = .ok (.iastore, 1) := by decide +kernel
theorem dX2_takeShown_74 : decode cX2_takeShown 74 = .ok (.aload_n 0, 1) := by decide +kernel
theorem dX2_takeShown_75 : decode cX2_takeShown 75 = .ok (.getfield 18, 3) := by decide +kernel
theorem dX2_takeShown_78 : decode cX2_takeShown 78 = .ok (.iload_n 1, 1) := by decide +kernel
theorem dX2_takeShown_79 : decode cX2_takeShown 79 = .ok (.iconst 0, 1) := by decide +kernel
theorem dX2_takeShown_80 : decode cX2_takeShown 80 = .ok (.iastore, 1) := by decide +kernel
theorem dX2_takeShown_81 : decode cX2_takeShown 81 = .ok (.aload_n 0, 1) := by decide +kernel
theorem dX2_takeShown_82 : decode cX2_takeShown 82 = .ok (.iload_n 2, 1) := by decide +kernel
theorem dX2_takeShown_83 : decode cX2_takeShown 83 = .ok (.putfield 29, 3) := by decide +kernel
theorem dX2_takeShown_86 : decode cX2_takeShown 86 = .ok (.return_, 1) := by decide +kernel
def BX2_takeShown_45 (I45 : XT → YT → Prop) (Q : XT → YT → Prop) (X : XT) (Y : YT) : Prop :=
  PX2_fail 3 (X 24 5) X Y (fun X2 Y3 => Q X2 Y3)
def BX2_takeShown_s (I45 : XT → YT → Prop) (Q : XT → YT → Prop) (p0 : Int32) (X : XT) (Y : YT) : Prop :=
  PX8_endOfWord (X 24 5) X Y (fun r1 X2 Y3 => PX1_find (X2 24 5) r1 X2 Y3 (fun r5 X6 Y7 => ((r5 = (-1) → I45 X6 Y7) ∧ (¬ r5 = (-1) → PX9_has (X6 24 12) r5 X6 Y7 (fun r10 X11 Y12 => ((r10 = 0 → ∀ X15 : XT, X15 = sX X11 24 12 ((X11 24 12) ||| (1 <<< (r5 &&& 31))) → vp_in p0 4 ∧ vp_in p0 4 ∧ ∀ X17 : XT, X17 = sX (sX X15 26 p0.toNatClampNeg r5) 27 p0.toNatClampNeg 0 → Q (sX X17 24 5 r1) Y12) ∧ (¬ r10 = 0 → I45 X11 Y12)))))))
def PX2_takeShown (p0 : Int32) (X : XT) (Y : YT) (Q : XT → YT → Prop) : Prop := ∀ (I45 : XT → YT → Prop), (∀ (X : XT) (Y : YT), BX2_takeShown_45 I45 Q X Y → I45 X Y) → BX2_takeShown_s I45 Q p0 X Y
set_option maxHeartbeats 4000000 in
set_option maxRecDepth 100000 in
theorem kX2_takeShown_45 {Γ : Cxt} {Q : XT → YT → Prop} (O : Ok Γ RX2 cX2_takeShown 4 { frames := 3, cells := 0, slots := 0, locals := 69 }) (r : Ret Γ none (qV Q)) {I45 : XT → YT → Prop} (e45 : ∀ (X : XT) (Y : YT), I45 X Y → V Γ 45 [(0, .ref 24)] [] X Y) {X : XT} {Y : YT} (h : BX2_takeShown_45 I45 Q X Y) : V Γ 45 [(0, .ref 24)] [] X Y := by
  refine v_aload_n O dX2_takeShown_45 rfl 0 rfl ?_
  refine v_iconst O dX2_takeShown_46 kc_3 ?_
  refine v_aload_n O dX2_takeShown_47 rfl 0 rfl ?_
  refine v_get O dX2_takeShown_48 fo_X2_29 sh_24 rfl rfl ?_
  refine v_callV (rm' := { frames := 0, cells := 0, slots := 0, locals := 0 }) (As := [.int 3, .int (X 24 5)]) (st := []) O dX2_takeShown_51 ci_X2_fail ml_X2_84 mi_X2_fail sh_24 rfl ⟨rfl, rfl, (by decide), (by decide)⟩ rfl (Nat.le_of_ble_eq_true rfl) rfl (mX2_fail h) (k_V (fun X2 Y3 h4 => ?_))
  exact v_vret O r dX2_takeShown_54 ⟨rfl, h4⟩
set_option maxHeartbeats 4000000 in
set_option maxRecDepth 100000 in
theorem kX2_takeShown_s {Γ : Cxt} {Q : XT → YT → Prop} (O : Ok Γ RX2 cX2_takeShown 4 { frames := 3, cells := 0, slots := 0, locals := 69 }) (r : Ret Γ none (qV Q)) {I45 : XT → YT → Prop} (e45 : ∀ (X : XT) (Y : YT), I45 X Y → V Γ 45 [(0, .ref 24)] [] X Y) {p0 : Int32} {X : XT} {Y : YT} (h : BX2_takeShown_s I45 Q p0 X Y) : V Γ 0 [(0, .ref 24), (1, .int p0)] [] X Y := by
  refine v_aload_n O dX2_takeShown_0 rfl 0 rfl ?_
  refine v_get O dX2_takeShown_1 fo_X2_21 sh_24 rfl rfl ?_
  refine v_aload_n O dX2_takeShown_4 rfl 0 rfl ?_
  refine v_get O dX2_takeShown_5 fo_X2_29 sh_24 rfl rfl ?_
  refine v_callV (rm' := { frames := 2, cells := 0, slots := 0, locals := 43 }) (As := [.int (X 24 5)]) (st := []) O dX2_takeShown_8 ci_X8_endOfWord ml_X2_88 mi_X8_endOfWord sh_1 rfl ⟨rfl, rfl, (by decide), (by decide)⟩ rfl (Nat.le_of_ble_eq_true rfl) rfl (mX8_endOfWord h) (k_I (fun r1 X2 Y3 h4 => ?_))
  refine v_istore_n (lv' := [(2, .int r1), (0, .ref 24), (1, .int p0)]) O dX2_takeShown_11 rfl (by decide) rfl ?_
  refine v_aload_n O dX2_takeShown_12 rfl 1 rfl ?_
  refine v_get O dX2_takeShown_13 fo_X2_25 sh_24 rfl rfl ?_
  refine v_aload_n O dX2_takeShown_16 rfl 1 rfl ?_
  refine v_get O dX2_takeShown_17 fo_X2_21 sh_24 rfl rfl ?_
  refine v_aload_n O dX2_takeShown_20 rfl 1 rfl ?_
  refine v_get O dX2_takeShown_21 fo_X2_29 sh_24 rfl rfl ?_
  refine v_iload_n O dX2_takeShown_24 rfl 0 rfl ?_
  refine v_callV (rm' := { frames := 2, cells := 0, slots := 0, locals := 45 }) (As := [.ref 1, .int (X2 24 5), .int r1]) (st := []) O dX2_takeShown_25 ci_X1_find ml_X2_120 mi_X1_find sh_3 rfl ⟨rfl, rfl, (by decide), (by decide)⟩ rfl (Nat.le_of_ble_eq_true rfl) rfl (mX1_find h4) (k_I (fun r5 X6 Y7 h8 => ?_))
  refine v_istore_n (lv' := [(3, .int r5), (2, .int r1), (0, .ref 24), (1, .int p0)]) O dX2_takeShown_28 rfl (by decide) rfl ?_
  refine v_iload_n O dX2_takeShown_29 rfl 0 rfl ?_
  refine v_iconst O dX2_takeShown_30 kc_m1 ?_
  refine v_icmp_eq (tgt := 45) O dX2_takeShown_31 (by decide) (fun g9 => ?_) (fun g9 => ?_)
  · exact v_loc [2] rfl (e45 X6 Y7 (h8.1 g9))
  · refine v_aload_n O dX2_takeShown_34 rfl 2 rfl ?_
    refine v_get O dX2_takeShown_35 fo_X2_45 sh_24 rfl rfl ?_
    refine v_iload_n O dX2_takeShown_38 rfl 0 rfl ?_
    refine v_callN (rm' := { frames := 0, cells := 0, slots := 0, locals := 0 }) (As := [.int (X6 24 12), .int r5]) (st := []) O dX2_takeShown_39 ci_X9_has ml_X2_126 ms_X9_has ⟨rfl, rfl, (by decide), (by decide)⟩ rfl (Nat.le_of_ble_eq_true rfl) rfl (mX9_has (h8.2 g9)) (k_I (fun r10 X11 Y12 h13 => ?_))
    refine v_if_eq (tgt := 55) O dX2_takeShown_42 (by decide) (fun g14 => ?_) (fun g14 => ?_)
    · refine v_aload_n O dX2_takeShown_55 rfl 2 rfl ?_
      refine v_dup O dX2_takeShown_56 rfl ?_
      refine v_get O dX2_takeShown_57 fo_X2_45 sh_24 rfl rfl ?_
      refine v_iconst O dX2_takeShown_60 kc_1 ?_
      refine v_iload_n O dX2_takeShown_61 rfl 0 rfl ?_
      refine v_ishl O dX2_takeShown_62 ?_
      refine v_ior O dX2_takeShown_63 ?_
      refine v_putI O dX2_takeShown_64 fo_X2_45 fp_2_12 sh_24 rfl rfl rfl ?_
      refine v_nmX (fun X15 hX16 => ?_)
      refine v_aload_n O dX2_takeShown_67 rfl 2 rfl ?_
      refine v_get O dX2_takeShown_68 fo_X2_15 sh_24 rfl rfl ?_
      refine v_iload_n O dX2_takeShown_71 rfl 3 rfl ?_
      refine v_iload_n O dX2_takeShown_72 rfl 0 rfl ?_
      refine v_iast O dX2_takeShown_73 sh_26 ((h13.1 g14) X15 hX16).1 ?_
      refine v_aload_n O dX2_takeShown_74 rfl 2 rfl ?_
      refine v_get O dX2_takeShown_75 fo_X2_18 sh_24 rfl rfl ?_
      refine v_iload_n O dX2_takeShown_78 rfl 3 rfl ?_
      refine v_iconst O dX2_takeShown_79 kc_0 ?_
      refine v_iast O dX2_takeShown_80 sh_27 ((h13.1 g14) X15 hX16).2.1 ?_
      refine v_nmX (fun X17 hX18 => ?_)
      refine v_aload_n O dX2_takeShown_81 rfl 2 rfl ?_
      refine v_iload_n O dX2_takeShown_82 rfl 1 rfl ?_
      refine v_putI O dX2_takeShown_83 fo_X2_29 fp_2_5 sh_24 rfl rfl rfl ?_
      exact v_vret O r dX2_takeShown_86 ⟨rfl, (((h13.1 g14) X15 hX16).2.2 X17 hX18)⟩
    · exact v_loc [2] rfl (e45 X11 Y12 (h13.2 g14))
set_option maxRecDepth 100000 in
theorem mX2_takeShown {Γ : Cxt} {p0 : Int32} {X : XT} {Y : YT} {Q : XT → YT → Prop} (h : PX2_takeShown p0 X Y Q) : MT Γ yX2_takeShown (.code yX2_takeShown cX2_takeShown 4 none :: wl) { frames := 3, cells := 0, slots := 0, locals := 69 } [.ref 24, .int p0] X Y (qV Q) :=
  mt_of (by decide) (Nat.le_of_ble_eq_true rfl) (fun Γ _ O r => kX2_takeShown_s O r (fun  _ _ g => g) (h (fun X Y => V Γ 45 [(0, .ref 24)] [] X Y) (fun  _ _ g => kX2_takeShown_45 O r (fun  _ _ g => g) g)))
theorem dX2_takeWord_0 : decode cX2_takeWord 0 = .ok (.aload_n 0, 1) := by decide +kernel
theorem dX2_takeWord_1 : decode cX2_takeWord 1 = .ok (.invokevirtual 81, 3) := by decide +kernel
theorem dX2_takeWord_4 : decode cX2_takeWord 4 = .ok (.aload_n 0, 1) := by decide +kernel
theorem dX2_takeWord_5 : decode cX2_takeWord 5 = .ok (.getfield 21, 3) := by decide +kernel
theorem dX2_takeWord_8 : decode cX2_takeWord 8 = .ok (.aload_n 0, 1) := by decide +kernel
theorem dX2_takeWord_9 : decode cX2_takeWord 9 = .ok (.getfield 29, 3) := by decide +kernel
theorem dX2_takeWord_12 : decode cX2_takeWord 12 = .ok (.invokevirtual 88, 3) := by decide +kernel
theorem dX2_takeWord_15 : decode cX2_takeWord 15 = .ok (.istore_n 2, 1) := by decide +kernel
theorem dX2_takeWord_16 : decode cX2_takeWord 16 = .ok (.iload_n 2, 1) := by decide +kernel
theorem dX2_takeWord_17 : decode cX2_takeWord 17 = .ok (.aload_n 0, 1) := by decide +kernel
theorem dX2_takeWord_18 : decode cX2_takeWord 18 = .ok (.getfield 29, 3) := by decide +kernel
theorem dX2_takeWord_21 : decode cX2_takeWord 21 = .ok (.isub, 1) := by decide +kernel
theorem dX2_takeWord_22 : decode cX2_takeWord 22 = .ok (.aload_n 1, 1) := by decide +kernel
theorem dX2_takeWord_23 : decode cX2_takeWord 23 = .ok (.invokevirtual 91, 3) := by decide +kernel
theorem dX2_takeWord_26 : decode cX2_takeWord 26 = .ok (.if_icmp .ne 7, 3) := by decide +kernel
theorem dX2_takeWord_29 : decode cX2_takeWord 29 = .ok (.iconst 1, 1) := by decide +kernel
theorem dX2_takeWord_30 : decode cX2_takeWord 30 = .ok (.goto 4, 3) := by decide +kernel
theorem dX2_takeWord_33 : decode cX2_takeWord 33 = .ok (.iconst 0, 1) := by decide +kernel
theorem dX2_takeWord_34 : decode cX2_takeWord 34 = .ok (.istore_n 3, 1) := by decide +kernel
theorem dX2_takeWord_35 : decode cX2_takeWord 35 = .ok (.iconst 0, 1) := by decide +kernel
theorem dX2_takeWord_36 : decode cX2_takeWord 36 = .ok (.istore 4, 2) := by decide +kernel
theorem dX2_takeWord_38 : decode cX2_takeWord 38 = .ok (.iload 4, 2) := by decide +kernel
theorem dX2_takeWord_40 : decode cX2_takeWord 40 = .ok (.aload_n 1, 1) := by decide +kernel
theorem dX2_takeWord_41 : decode cX2_takeWord 41 = .ok (.invokevirtual 91, 3) := by decide +kernel
theorem dX2_takeWord_44 : decode cX2_takeWord 44 = .ok (.if_icmp .ge 42, 3) := by decide +kernel
theorem dX2_takeWord_47 : decode cX2_takeWord 47 = .ok (.iload_n 3, 1) := by decide +kernel
theorem dX2_takeWord_48 : decode cX2_takeWord 48 = .ok (.ifCond .eq 38, 3) := by decide +kernel
theorem dX2_takeWord_51 : decode cX2_takeWord 51 = .ok (.aload_n 0, 1) := by decide +kernel
theorem dX2_takeWord_52 : decode cX2_takeWord 52 = .ok (.getfield 21, 3) := by decide +kernel
theorem dX2_takeWord_55 : decode cX2_takeWord 55 = .ok (.aload_n 0, 1) := by decide +kernel
theorem dX2_takeWord_56 : decode cX2_takeWord 56 = .ok (.getfield 29, 3) := by decide +kernel
theorem dX2_takeWord_59 : decode cX2_takeWord 59 = .ok (.iload 4, 2) := by decide +kernel
theorem dX2_takeWord_61 : decode cX2_takeWord 61 = .ok (.iadd, 1) := by decide +kernel
theorem dX2_takeWord_62 : decode cX2_takeWord 62 = .ok (.invokevirtual 78, 3) := by decide +kernel
theorem dX2_takeWord_65 : decode cX2_takeWord 65 = .ok (.aload_n 1, 1) := by decide +kernel
theorem dX2_takeWord_66 : decode cX2_takeWord 66 = .ok (.iload 4, 2) := by decide +kernel
theorem dX2_takeWord_68 : decode cX2_takeWord 68 = .ok (.invokevirtual 97, 3) := by decide +kernel
theorem dX2_takeWord_71 : decode cX2_takeWord 71 = .ok (.if_icmp .ne 7, 3) := by decide +kernel
theorem dX2_takeWord_74 : decode cX2_takeWord 74 = .ok (.iconst 1, 1) := by decide +kernel
theorem dX2_takeWord_75 : decode cX2_takeWord 75 = .ok (.goto 4, 3) := by decide +kernel
theorem dX2_takeWord_78 : decode cX2_takeWord 78 = .ok (.iconst 0, 1) := by decide +kernel
theorem dX2_takeWord_79 : decode cX2_takeWord 79 = .ok (.istore_n 3, 1) := by decide +kernel
theorem dX2_takeWord_80 : decode cX2_takeWord 80 = .ok (.iinc 4 1, 3) := by decide +kernel
theorem dX2_takeWord_83 : decode cX2_takeWord 83 = .ok (.goto (-45), 3) := by decide +kernel
theorem dX2_takeWord_86 : decode cX2_takeWord 86 = .ok (.iload_n 3, 1) := by decide +kernel
theorem dX2_takeWord_87 : decode cX2_takeWord 87 = .ok (.ifCond .ne 12, 3) := by decide +kernel
theorem dX2_takeWord_90 : decode cX2_takeWord 90 = .ok (.aload_n 0, 1) := by decide +kernel
theorem dX2_takeWord_91 : decode cX2_takeWord 91 = .ok (.iconst 1, 1) := by decide +kernel
theorem dX2_takeWord_92 : decode cX2_takeWord 92 = .ok (.aload_n 0, 1) := by decide +kernel
theorem dX2_takeWord_93 : decode cX2_takeWord 93 = .ok (.getfield 29, 3) := by decide +kernel
theorem dX2_takeWord_96 : decode cX2_takeWord 96 = .ok (.invokevirtual 84, 3) := by decide +kernel
theorem dX2_takeWord_99 : decode cX2_takeWord 99 = .ok (.aload_n 0, 1) := by decide +kernel
theorem dX2_takeWord_100 : decode cX2_takeWord 100 = .ok (.iload_n 2, 1) := by decide +kernel
theorem dX2_takeWord_101 : decode cX2_takeWord 101 = .ok (.putfield 29, 3) := by decide +kernel
theorem dX2_takeWord_104 : decode cX2_takeWord 104 = .ok (.return_, 1) := by decide +kernel
def BX2_takeWord_38 (p0 : Nat) (I38 : Int32 → Int32 → Int32 → XT → YT → Prop) (I86 : Int32 → Int32 → XT → YT → Prop) (Q : XT → YT → Prop) (a2 : Int32) (a3 : Int32) (a4 : Int32) (X : XT) (Y : YT) : Prop :=
  PJ0_length_8abf5 p0 X Y (fun r1 X2 Y3 => ((r1 ≤ a4 → I86 a2 a3 X2 Y3) ∧ (¬ r1 ≤ a4 → ((a3 = 0 → I86 a2 a3 X2 Y3) ∧ (¬ a3 = 0 → PX8_at ((X2 24 5) + a4) X2 Y3 (fun r7 X8 Y9 => PJ0_charAt_5068e p0 a4 X8 Y9 (fun r11 X12 Y13 => ((¬ r7 = r11 → ∀ w16 : Int32, w16 = a4 + 1 → I38 a2 0 w16 X12 Y13) ∧ (r7 = r11 → ∀ w18 : Int32, w18 = a4 + 1 → I38 a2 1 w18 X12 Y13)))))))))
def BX2_takeWord_86 (p0 : Nat) (I38 : Int32 → Int32 → Int32 → XT → YT → Prop) (I86 : Int32 → Int32 → XT → YT → Prop) (Q : XT → YT → Prop) (a2 : Int32) (a3 : Int32) (X : XT) (Y : YT) : Prop :=
  ((¬ a3 = 0 → Q (sX X 24 5 a2) Y) ∧ (a3 = 0 → PX2_fail 1 (X 24 5) X Y (fun X3 Y4 => Q (sX X3 24 5 a2) Y4)))
def BX2_takeWord_s (p0 : Nat) (I38 : Int32 → Int32 → Int32 → XT → YT → Prop) (I86 : Int32 → Int32 → XT → YT → Prop) (Q : XT → YT → Prop) (X : XT) (Y : YT) : Prop :=
  PX2_skipBlanks X Y (fun X2 Y3 => PX8_endOfWord (X2 24 5) X2 Y3 (fun r5 X6 Y7 => PJ0_length_8abf5 p0 X6 Y7 (fun r9 X10 Y11 => ((¬ (r5 - (X6 24 5)) = r9 → I38 r5 0 0 X10 Y11) ∧ ((r5 - (X6 24 5)) = r9 → I38 r5 1 0 X10 Y11)))))
def PX2_takeWord (p0 : Nat) (X : XT) (Y : YT) (Q : XT → YT → Prop) : Prop := ∀ (I38 : Int32 → Int32 → Int32 → XT → YT → Prop) (I86 : Int32 → Int32 → XT → YT → Prop), (∀ (a2 : Int32) (a3 : Int32) (a4 : Int32) (X : XT) (Y : YT), BX2_takeWord_38 p0 I38 I86 Q a2 a3 a4 X Y → I38 a2 a3 a4 X Y) → (∀ (a2 : Int32) (a3 : Int32) (X : XT) (Y : YT), BX2_takeWord_86 p0 I38 I86 Q a2 a3 X Y → I86 a2 a3 X Y) → BX2_takeWord_s p0 I38 I86 Q X Y
set_option maxHeartbeats 4000000 in
set_option maxRecDepth 100000 in
theorem kX2_takeWord_38 {Γ : Cxt} {Q : XT → YT → Prop} (O : Ok Γ RX2 cX2_takeWord 5 { frames := 4, cells := 0, slots := 0, locals := 85 }) (r : Ret Γ none (qV Q)) {p0 : Nat} {I38 : Int32 → Int32 → Int32 → XT → YT → Prop} {I86 : Int32 → Int32 → XT → YT → Prop} (e38 : ∀ (a2 : Int32) (a3 : Int32) (a4 : Int32) (X : XT) (Y : YT), I38 a2 a3 a4 X Y → V Γ 38 [(0, .ref 24), (1, .ref (80 + p0)), (2, .int a2), (3, .int a3), (4, .int a4)] [] X Y) (e86 : ∀ (a2 : Int32) (a3 : Int32) (X : XT) (Y : YT), I86 a2 a3 X Y → V Γ 86 [(0, .ref 24), (2, .int a2), (3, .int a3)] [] X Y) {a2 : Int32} {a3 : Int32} {a4 : Int32} {X : XT} {Y : YT} (h : BX2_takeWord_38 p0 I38 I86 Q a2 a3 a4 X Y) : V Γ 38 [(0, .ref 24), (1, .ref (80 + p0)), (2, .int a2), (3, .int a3), (4, .int a4)] [] X Y := by
  refine v_iload O dX2_takeWord_38 4 rfl ?_
  refine v_aload_n O dX2_takeWord_40 rfl 1 rfl ?_
  refine v_callT (rm' := { frames := 1, cells := 0, slots := 0, locals := 20 }) (As := []) (st := [.int a4]) O dX2_takeWord_41 ci_J0_length_8abf5 ml_X2_91 mi_J0_length_8abf5 rfl h.1 ⟨rfl, rfl, (by decide), (by decide)⟩ rfl (Nat.le_of_ble_eq_true rfl) rfl (mJ0_length_8abf5 h) (k_I (fun r1 X2 Y3 h4 => ?_))
  refine v_icmp_ge (tgt := 86) O dX2_takeWord_44 (by decide) (fun g5 => ?_) (fun g5 => ?_)
  · exact v_loc [0, 2, 3] rfl (e86 a2 a3 X2 Y3 (h4.1 g5))
  · refine v_iload_n O dX2_takeWord_47 rfl 3 rfl ?_
    refine v_if_eq (tgt := 86) O dX2_takeWord_48 (by decide) (fun g6 => ?_) (fun g6 => ?_)
    · exact v_loc [0, 2, 3] rfl (e86 a2 a3 X2 Y3 ((h4.2 g5).1 g6))
    · refine v_aload_n O dX2_takeWord_51 rfl 0 rfl ?_
      refine v_get O dX2_takeWord_52 fo_X2_21 sh_24 rfl rfl ?_
      refine v_aload_n O dX2_takeWord_55 rfl 0 rfl ?_
      refine v_get O dX2_takeWord_56 fo_X2_29 sh_24 rfl rfl ?_
      refine v_iload O dX2_takeWord_59 4 rfl ?_
      refine v_iadd O dX2_takeWord_61 ?_
      refine v_callV (rm' := { frames := 0, cells := 0, slots := 0, locals := 0 }) (As := [.int ((X2 24 5) + a4)]) (st := []) O dX2_takeWord_62 ci_X8_at ml_X2_78 mi_X8_at sh_1 rfl ⟨rfl, rfl, (by decide), (by decide)⟩ rfl (Nat.le_of_ble_eq_true rfl) rfl (mX8_at ((h4.2 g5).2 g6)) (k_I (fun r7 X8 Y9 h10 => ?_))
      refine v_aload_n O dX2_takeWord_65 rfl 1 rfl ?_
      refine v_iload O dX2_takeWord_66 4 rfl ?_
      refine v_callT (rm' := { frames := 3, cells := 0, slots := 0, locals := 64 }) (As := [.int a4]) (st := [.int r7]) O dX2_takeWord_68 ci_J0_charAt_5068e ml_X2_97 mi_J0_charAt_5068e rfl h10.1 ⟨rfl, rfl, (by decide), (by decide)⟩ rfl (Nat.le_of_ble_eq_true rfl) rfl (mJ0_charAt_5068e h10) (k_I (fun r11 X12 Y13 h14 => ?_))
      refine v_icmp_ne (tgt := 78) O dX2_takeWord_71 (by decide) (fun g15 => ?_) (fun g15 => ?_)
      · refine v_iconst O dX2_takeWord_78 kc_0 ?_
        refine v_istore_n (lv' := [(3, .int 0), (0, .ref 24), (1, .ref (80 + p0)), (2, .int a2), (4, .int a4)]) O dX2_takeWord_79 rfl (by decide) rfl ?_
        obtain ⟨w16, hw17⟩ : ∃ y : Int32, y = a4 + 1 := ⟨_, rfl⟩
        refine v_iinc (v := w16) (j := 4) O dX2_takeWord_80 rfl (by rw [hw17]; exact congrArg _ kc_1) (by decide) (lv' := [(4, .int w16), (3, .int 0), (0, .ref 24), (1, .ref (80 + p0)), (2, .int a2)]) rfl ?_
        refine v_goto O dX2_takeWord_83 (tgt := 38) (by decide) ?_
        exact v_loc [2, 3, 4, 1, 0] rfl (e38 a2 0 w16 X12 Y13 ((h14.1 g15) w16 hw17))
      · refine v_iconst O dX2_takeWord_74 kc_1 ?_
        refine v_goto O dX2_takeWord_75 (tgt := 79) (by decide) ?_
        refine v_istore_n (lv' := [(3, .int 1), (0, .ref 24), (1, .ref (80 + p0)), (2, .int a2), (4, .int a4)]) O dX2_takeWord_79 rfl (by decide) rfl ?_
        obtain ⟨w18, hw19⟩ : ∃ y : Int32, y = a4 + 1 := ⟨_, rfl⟩
        refine v_iinc (v := w18) (j := 4) O dX2_takeWord_80 rfl (by rw [hw19]; exact congrArg _ kc_1) (by decide) (lv' := [(4, .int w18), (3, .int 1), (0, .ref 24), (1, .ref (80 + p0)), (2, .int a2)]) rfl ?_
        refine v_goto O dX2_takeWord_83 (tgt := 38) (by decide) ?_
        exact v_loc [2, 3, 4, 1, 0] rfl (e38 a2 1 w18 X12 Y13 ((h14.2 g15) w18 hw19))
set_option maxHeartbeats 4000000 in
set_option maxRecDepth 100000 in
theorem kX2_takeWord_86 {Γ : Cxt} {Q : XT → YT → Prop} (O : Ok Γ RX2 cX2_takeWord 5 { frames := 4, cells := 0, slots := 0, locals := 85 }) (r : Ret Γ none (qV Q)) {p0 : Nat} {I38 : Int32 → Int32 → Int32 → XT → YT → Prop} {I86 : Int32 → Int32 → XT → YT → Prop} (e38 : ∀ (a2 : Int32) (a3 : Int32) (a4 : Int32) (X : XT) (Y : YT), I38 a2 a3 a4 X Y → V Γ 38 [(0, .ref 24), (1, .ref (80 + p0)), (2, .int a2), (3, .int a3), (4, .int a4)] [] X Y) (e86 : ∀ (a2 : Int32) (a3 : Int32) (X : XT) (Y : YT), I86 a2 a3 X Y → V Γ 86 [(0, .ref 24), (2, .int a2), (3, .int a3)] [] X Y) {a2 : Int32} {a3 : Int32} {X : XT} {Y : YT} (h : BX2_takeWord_86 p0 I38 I86 Q a2 a3 X Y) : V Γ 86 [(0, .ref 24), (2, .int a2), (3, .int a3)] [] X Y := by
  refine v_iload_n O dX2_takeWord_86 rfl 2 rfl ?_
  refine v_if_ne (tgt := 99) O dX2_takeWord_87 (by decide) (fun g1 => ?_) (fun g1 => ?_)
  · refine v_aload_n O dX2_takeWord_99 rfl 0 rfl ?_
    refine v_iload_n O dX2_takeWord_100 rfl 1 rfl ?_
    refine v_putI O dX2_takeWord_101 fo_X2_29 fp_2_5 sh_24 rfl rfl rfl ?_
    exact v_vret O r dX2_takeWord_104 ⟨rfl, (h.1 g1)⟩
  · refine v_aload_n O dX2_takeWord_90 rfl 0 rfl ?_
    refine v_iconst O dX2_takeWord_91 kc_1 ?_
    refine v_aload_n O dX2_takeWord_92 rfl 0 rfl ?_
    refine v_get O dX2_takeWord_93 fo_X2_29 sh_24 rfl rfl ?_
    refine v_callV (rm' := { frames := 0, cells := 0, slots := 0, locals := 0 }) (As := [.int 1, .int (X 24 5)]) (st := []) O dX2_takeWord_96 ci_X2_fail ml_X2_84 mi_X2_fail sh_24 rfl ⟨rfl, rfl, (by decide), (by decide)⟩ rfl (Nat.le_of_ble_eq_true rfl) rfl (mX2_fail (h.2 g1)) (k_V (fun X3 Y4 h5 => ?_))
    refine v_aload_n O dX2_takeWord_99 rfl 0 rfl ?_
    refine v_iload_n O dX2_takeWord_100 rfl 1 rfl ?_
    refine v_putI O dX2_takeWord_101 fo_X2_29 fp_2_5 sh_24 rfl rfl rfl ?_
    exact v_vret O r dX2_takeWord_104 ⟨rfl, h5⟩
set_option maxHeartbeats 4000000 in
set_option maxRecDepth 100000 in
theorem kX2_takeWord_s {Γ : Cxt} {Q : XT → YT → Prop} (O : Ok Γ RX2 cX2_takeWord 5 { frames := 4, cells := 0, slots := 0, locals := 85 }) (r : Ret Γ none (qV Q)) {p0 : Nat} {I38 : Int32 → Int32 → Int32 → XT → YT → Prop} {I86 : Int32 → Int32 → XT → YT → Prop} (e38 : ∀ (a2 : Int32) (a3 : Int32) (a4 : Int32) (X : XT) (Y : YT), I38 a2 a3 a4 X Y → V Γ 38 [(0, .ref 24), (1, .ref (80 + p0)), (2, .int a2), (3, .int a3), (4, .int a4)] [] X Y) (e86 : ∀ (a2 : Int32) (a3 : Int32) (X : XT) (Y : YT), I86 a2 a3 X Y → V Γ 86 [(0, .ref 24), (2, .int a2), (3, .int a3)] [] X Y) {X : XT} {Y : YT} (h : BX2_takeWord_s p0 I38 I86 Q X Y) : V Γ 0 [(0, .ref 24), (1, .ref (80 + p0))] [] X Y := by
  refine v_aload_n O dX2_takeWord_0 rfl 0 rfl ?_
  refine v_callV (rm' := { frames := 1, cells := 0, slots := 0, locals := 21 }) (As := []) (st := []) O dX2_takeWord_1 ci_X2_skipBlanks ml_X2_81 mi_X2_skipBlanks sh_24 rfl ⟨rfl, rfl, (by decide), (by decide)⟩ rfl (Nat.le_of_ble_eq_true rfl) rfl (mX2_skipBlanks h) (k_V (fun X2 Y3 h4 => ?_))
  refine v_aload_n O dX2_takeWord_4 rfl 0 rfl ?_
  refine v_get O dX2_takeWord_5 fo_X2_21 sh_24 rfl rfl ?_
  refine v_aload_n O dX2_takeWord_8 rfl 0 rfl ?_
  refine v_get O dX2_takeWord_9 fo_X2_29 sh_24 rfl rfl ?_
  refine v_callV (rm' := { frames := 2, cells := 0, slots := 0, locals := 43 }) (As := [.int (X2 24 5)]) (st := []) O dX2_takeWord_12 ci_X8_endOfWord ml_X2_88 mi_X8_endOfWord sh_1 rfl ⟨rfl, rfl, (by decide), (by decide)⟩ rfl (Nat.le_of_ble_eq_true rfl) rfl (mX8_endOfWord h4) (k_I (fun r5 X6 Y7 h8 => ?_))
  refine v_istore_n (lv' := [(2, .int r5), (0, .ref 24), (1, .ref (80 + p0))]) O dX2_takeWord_15 rfl (by decide) rfl ?_
  refine v_iload_n O dX2_takeWord_16 rfl 0 rfl ?_
  refine v_aload_n O dX2_takeWord_17 rfl 1 rfl ?_
  refine v_get O dX2_takeWord_18 fo_X2_29 sh_24 rfl rfl ?_
  refine v_isub O dX2_takeWord_21 ?_
  refine v_aload_n O dX2_takeWord_22 rfl 2 rfl ?_
  refine v_callT (rm' := { frames := 1, cells := 0, slots := 0, locals := 20 }) (As := []) (st := [.int (r5 - (X6 24 5))]) O dX2_takeWord_23 ci_J0_length_8abf5 ml_X2_91 mi_J0_length_8abf5 rfl h8.1 ⟨rfl, rfl, (by decide), (by decide)⟩ rfl (Nat.le_of_ble_eq_true rfl) rfl (mJ0_length_8abf5 h8) (k_I (fun r9 X10 Y11 h12 => ?_))
  refine v_icmp_ne (tgt := 33) O dX2_takeWord_26 (by decide) (fun g13 => ?_) (fun g13 => ?_)
  · refine v_iconst O dX2_takeWord_33 kc_0 ?_
    refine v_istore_n (lv' := [(3, .int 0), (2, .int r5), (0, .ref 24), (1, .ref (80 + p0))]) O dX2_takeWord_34 rfl (by decide) rfl ?_
    refine v_iconst O dX2_takeWord_35 kc_0 ?_
    refine v_istore (lv' := [(4, .int 0), (3, .int 0), (2, .int r5), (0, .ref 24), (1, .ref (80 + p0))]) O dX2_takeWord_36 (by decide) rfl ?_
    exact v_loc [3, 4, 2, 1, 0] rfl (e38 r5 0 0 X10 Y11 (h12.1 g13))
  · refine v_iconst O dX2_takeWord_29 kc_1 ?_
    refine v_goto O dX2_takeWord_30 (tgt := 34) (by decide) ?_
    refine v_istore_n (lv' := [(3, .int 1), (2, .int r5), (0, .ref 24), (1, .ref (80 + p0))]) O dX2_takeWord_34 rfl (by decide) rfl ?_
    refine v_iconst O dX2_takeWord_35 kc_0 ?_
    refine v_istore (lv' := [(4, .int 0), (3, .int 1), (2, .int r5), (0, .ref 24), (1, .ref (80 + p0))]) O dX2_takeWord_36 (by decide) rfl ?_
    exact v_loc [3, 4, 2, 1, 0] rfl (e38 r5 1 0 X10 Y11 (h12.2 g13))
set_option maxRecDepth 100000 in
theorem mX2_takeWord {Γ : Cxt} {p0 : Nat} {X : XT} {Y : YT} {Q : XT → YT → Prop} (h : PX2_takeWord p0 X Y Q) : MT Γ yX2_takeWord (.code yX2_takeWord cX2_takeWord 5 none :: wl) { frames := 4, cells := 0, slots := 0, locals := 85 } [.ref 24, .ref (80 + p0)] X Y (qV Q) :=
  mt_of (by decide) (Nat.le_of_ble_eq_true rfl) (fun Γ _ O r => kX2_takeWord_s O r (fun _ _ _ _ _ g => g) (fun _ _ _ _ g => g) (h (fun a2 a3 a4 X Y => V Γ 38 [(0, .ref 24), (1, .ref (80 + p0)), (2, .int a2), (3, .int a3), (4, .int a4)] [] X Y) (fun a2 a3 X Y => V Γ 86 [(0, .ref 24), (2, .int a2), (3, .int a3)] [] X Y) (fun _ _ _ _ _ g => kX2_takeWord_38 O r (fun _ _ _ _ _ g => g) (fun _ _ _ _ g => g) g) (fun _ _ _ _ g => kX2_takeWord_86 O r (fun _ _ _ _ _ g => g) (fun _ _ _ _ g => g) g)))
theorem dX2_takePlace_0 : decode cX2_takePlace 0 = .ok (.aload_n 0, 1) := by decide +kernel
theorem dX2_takePlace_1 : decode cX2_takePlace 1 = .ok (.invokevirtual 81, 3) := by decide +kernel
theorem dX2_takePlace_4 : decode cX2_takePlace 4 = .ok (.aload_n 0, 1) := by decide +kernel
theorem dX2_takePlace_5 : decode cX2_takePlace 5 = .ok (.getfield 29, 3) := by decide +kernel
theorem dX2_takePlace_8 : decode cX2_takePlace 8 = .ok (.istore_n 2, 1) := by decide +kernel
theorem dX2_takePlace_9 : decode cX2_takePlace 9 = .ok (.aload_n 0, 1) := by decide +kernel
theorem dX2_takePlace_10 : decode cX2_takePlace 10 = .ok (.ldc 109, 2) := by decide +kernel
theorem dX2_takePlace_12 : decode cX2_takePlace 12 = .ok (.invokevirtual 50, 3) := by decide +kernel
theorem dX2_takePlace_15 : decode cX2_takePlace 15 = .ok (.iload_n 1, 1) := by decide +kernel
theorem dX2_takePlace_16 : decode cX2_takePlace 16 = .ok (.iconst 4, 1) := by decide +kernel
theorem dX2_takePlace_17 : decode cX2_takePlace 17 = .ok (.if_icmp .lt 9, 3) := by decide +kernel
theorem dX2_takePlace_20 : decode cX2_takePlace 20 = .ok (.aload_n 0, 1) := by decide +kernel
theorem dX2_takePlace_21 : decode cX2_takePlace 21 = .ok (.iconst 4, 1) := by decide +kernel
theorem dX2_takePlace_22 : decode cX2_takePlace 22 = .ok (.iload_n 2, 1) := by decide +kernel
theorem dX2_takePlace_23 : decode cX2_takePlace 23 = .ok (.invokevirtual 84, 3) := by decide +kernel
theorem dX2_takePlace_26 : decode cX2_takePlace 26 = .ok (.aload_n 0, 1) := by decide +kernel
theorem dX2_takePlace_27 : decode cX2_takePlace 27 = .ok (.iconst 0, 1) := by decide +kernel
theorem dX2_takePlace_28 : decode cX2_takePlace 28 = .ok (.iconst 3, 1) := by decide +kernel
theorem dX2_takePlace_29 : decode cX2_takePlace 29 = .ok (.invokevirtual 54, 3) := by decide +kernel
theorem dX2_takePlace_32 : decode cX2_takePlace 32 = .ok (.istore_n 3, 1) := by decide +kernel
theorem dX2_takePlace_33 : decode cX2_takePlace 33 = .ok (.aload_n 0, 1) := by decide +kernel
theorem dX2_takePlace_34 : decode cX2_takePlace 34 = .ok (.invokevirtual 81, 3) := by decide +kernel
theorem dX2_takePlace_37 : decode cX2_takePlace 37 = .ok (.aload_n 0, 1) := by decide +kernel
theorem dX2_takePlace_38 : decode cX2_takePlace 38 = .ok (.getfield 33, 3) := by decide +kernel
theorem dX2_takePlace_41 : decode cX2_takePlace 41 = .ok (.ifCond .ne 8, 3) := by decide +kernel
theorem dX2_takePlace_44 : decode cX2_takePlace 44 = .ok (.iload_n 1, 1) := by decide +kernel
theorem dX2_takePlace_45 : decode cX2_takePlace 45 = .ok (.iconst 4, 1) := by decide +kernel
theorem dX2_takePlace_46 : decode cX2_takePlace 46 = .ok (.if_icmp .lt 4, 3) := by decide +kernel
theorem dX2_takePlace_49 : decode cX2_takePlace 49 = .ok (.return_, 1) := by decide +kernel
theorem dX2_takePlace_50 : decode cX2_takePlace 50 = .ok (.aload_n 0, 1) := by decide +kernel
theorem dX2_takePlace_51 : decode cX2_takePlace 51 = .ok (.getfield 9, 3) := by decide +kernel
theorem dX2_takePlace_54 : decode cX2_takePlace 54 = .ok (.iload_n 1, 1) := by decide +kernel
theorem dX2_takePlace_55 : decode cX2_takePlace 55 = .ok (.iload_n 3, 1) := by decide +kernel
theorem dX2_takePlace_56 : decode cX2_takePlace 56 = .ok (.iastore, 1) := by decide +kernel
theorem dX2_takePlace_57 : decode cX2_takePlace 57 = .ok (.aload_n 0, 1) := by decide +kernel
theorem dX2_takePlace_58 : decode cX2_takePlace 58 = .ok (.iload_n 1, 1) := by decide +kernel
theorem dX2_takePlace_59 : decode cX2_takePlace 59 = .ok (.iconst 1, 1) := by decide +kernel
theorem dX2_takePlace_60 : decode cX2_takePlace 60 = .ok (.iadd, 1) := by decide +kernel
theorem dX2_takePlace_61 : decode cX2_takePlace 61 = .ok (.putfield 39, 3) := by decide +kernel
theorem dX2_takePlace_64 : decode cX2_takePlace 64 = .ok (.aload_n 0, 1) := by decide +kernel
theorem dX2_takePlace_65 : decode cX2_takePlace 65 = .ok (.getfield 21, 3) := by decide +kernel
theorem dX2_takePlace_68 : decode cX2_takePlace 68 = .ok (.aload_n 0, 1) := by decide +kernel
theorem dX2_takePlace_69 : decode cX2_takePlace 69 = .ok (.getfield 29, 3) := by decide +kernel
theorem dX2_takePlace_72 : decode cX2_takePlace 72 = .ok (.invokevirtual 111, 3) := by decide +kernel
theorem dX2_takePlace_75 : decode cX2_takePlace 75 = .ok (.ifCond .eq 11, 3) := by decide +kernel
theorem dX2_takePlace_78 : decode cX2_takePlace 78 = .ok (.aload_n 0, 1) := by decide +kernel
theorem dX2_takePlace_79 : decode cX2_takePlace 79 = .ok (.iload_n 1, 1) := by decide +kernel
theorem dX2_takePlace_80 : decode cX2_takePlace 80 = .ok (.invokevirtual 114, 3) := by decide +kernel
theorem dX2_takePlace_83 : decode cX2_takePlace 83 = .ok (.goto 36, 3) := by decide +kernel
theorem dX2_takePlace_86 : decode cX2_takePlace 86 = .ok (.aload_n 0, 1) := by decide +kernel
theorem dX2_takePlace_87 : decode cX2_takePlace 87 = .ok (.getfield 21, 3) := by decide +kernel
theorem dX2_takePlace_90 : decode cX2_takePlace 90 = .ok (.aload_n 0, 1) := by decide +kernel
theorem dX2_takePlace_91 : decode cX2_takePlace 91 = .ok (.getfield 29, 3) := by decide +kernel
theorem dX2_takePlace_94 : decode cX2_takePlace 94 = .ok (.invokevirtual 78, 3) := by decide +kernel
theorem dX2_takePlace_97 : decode cX2_takePlace 97 = .ok (.bipush 91, 2) := by decide +kernel
theorem dX2_takePlace_99 : decode cX2_takePlace 99 = .ok (.if_icmp .ne 11, 3) := by decide +kernel
theorem dX2_takePlace_102 : decode cX2_takePlace 102 = .ok (.aload_n 0, 1) := by decide +kernel
theorem dX2_takePlace_103 : decode cX2_takePlace 103 = .ok (.iload_n 1, 1) := by decide +kernel
theorem dX2_takePlace_104 : decode cX2_takePlace 104 = .ok (.invokevirtual 117, 3) := by decide +kernel
theorem dX2_takePlace_107 : decode cX2_takePlace 107 = .ok (.goto 12, 3) := by decide +kernel
theorem dX2_takePlace_110 : decode cX2_takePlace 110 = .ok (.aload_n 0, 1) := by decide +kernel
theorem dX2_takePlace_111 : decode cX2_takePlace 111 = .ok (.iconst 1, 1) := by decide +kernel
theorem dX2_takePlace_112 : decode cX2_takePlace 112 = .ok (.aload_n 0, 1) := by decide +kernel
theorem dX2_takePlace_113 : decode cX2_takePlace 113 = .ok (.getfield 29, 3) := by decide +kernel
theorem dX2_takePlace_116 : decode cX2_takePlace 116 = .ok (.invokevirtual 84, 3) := by decide +kernel
theorem dX2_takePlace_119 : decode cX2_takePlace 119 = .ok (.return_, 1) := by decide +kernel
def BX2_takePlace_26 (I26 : Int32 → XT → YT → Prop) (Q : XT → YT → Prop) (a1 : Int32) (X : XT) (Y : YT) : Prop :=
  PX2_takeNumber 0 3 X Y (fun r1 X2 Y3 => PX2_skipBlanks X2 Y3 (fun X6 Y7 => ((¬ (X6 24 6) = 0 → Q X6 Y7) ∧ ((X6 24 6) = 0 → ((a1 < 4 → vp_in a1 4 ∧ ∀ X11 : XT, X11 = sX (sX X6 25 a1.toNatClampNeg r1) 24 10 (a1 + 1) → PX8_isLetter (X11 24 5) X11 Y7 (fun r13 X14 Y15 => ((r13 = 0 → PX8_at (X14 24 5) X14 Y15 (fun r18 X19 Y20 => ((¬ r18 = 91 → PX2_fail 1 (X19 24 5) X19 Y20 (fun X24 Y25 => Q X24 Y25)) ∧ (r18 = 91 → PX2_takeBar a1 X19 Y20 (fun X28 Y29 => Q X28 Y29))))) ∧ (¬ r13 = 0 → PX2_takeShown a1 X14 Y15 (fun X32 Y33 => Q X32 Y33))))) ∧ (¬ a1 < 4 → Q X6 Y7))))))
def BX2_takePlace_s (I26 : Int32 → XT → YT → Prop) (Q : XT → YT → Prop) (p0 : Int32) (X : XT) (Y : YT) : Prop :=
  PX2_skipBlanks X Y (fun X2 Y3 => ∀ w5 : Int32, w5 = (X2 24 5) → PX2_takeWord 2 X2 Y3 (fun X8 Y9 => ((p0 < 4 → I26 p0 X8 Y9) ∧ (¬ p0 < 4 → PX2_fail 4 w5 X8 Y9 (fun X13 Y14 => I26 p0 X13 Y14)))))
def PX2_takePlace (p0 : Int32) (X : XT) (Y : YT) (Q : XT → YT → Prop) : Prop := ∀ (I26 : Int32 → XT → YT → Prop), (∀ (a1 : Int32) (X : XT) (Y : YT), BX2_takePlace_26 I26 Q a1 X Y → I26 a1 X Y) → BX2_takePlace_s I26 Q p0 X Y
set_option maxHeartbeats 4000000 in
set_option maxRecDepth 100000 in
theorem kX2_takePlace_26 {Γ : Cxt} {Q : XT → YT → Prop} (O : Ok Γ RX2 cX2_takePlace 4 { frames := 5, cells := 0, slots := 0, locals := 109 }) (r : Ret Γ none (qV Q)) {I26 : Int32 → XT → YT → Prop} (e26 : ∀ (a1 : Int32) (X : XT) (Y : YT), I26 a1 X Y → V Γ 26 [(0, .ref 24), (1, .int a1)] [] X Y) {a1 : Int32} {X : XT} {Y : YT} (h : BX2_takePlace_26 I26 Q a1 X Y) : V Γ 26 [(0, .ref 24), (1, .int a1)] [] X Y := by
  refine v_aload_n O dX2_takePlace_26 rfl 0 rfl ?_
  refine v_iconst O dX2_takePlace_27 kc_0 ?_
  refine v_iconst O dX2_takePlace_28 kc_3 ?_
  refine v_callV (rm' := { frames := 2, cells := 0, slots := 0, locals := 43 }) (As := [.int 0, .int 3]) (st := []) O dX2_takePlace_29 ci_X2_takeNumber ml_X2_54 mi_X2_takeNumber sh_24 rfl ⟨rfl, rfl, (by decide), (by decide)⟩ rfl (Nat.le_of_ble_eq_true rfl) rfl (mX2_takeNumber h) (k_I (fun r1 X2 Y3 h4 => ?_))
  refine v_istore_n (lv' := [(3, .int r1), (0, .ref 24), (1, .int a1)]) O dX2_takePlace_32 rfl (by decide) rfl ?_
  refine v_aload_n O dX2_takePlace_33 rfl 1 rfl ?_
  refine v_callV (rm' := { frames := 1, cells := 0, slots := 0, locals := 21 }) (As := []) (st := []) O dX2_takePlace_34 ci_X2_skipBlanks ml_X2_81 mi_X2_skipBlanks sh_24 rfl ⟨rfl, rfl, (by decide), (by decide)⟩ rfl (Nat.le_of_ble_eq_true rfl) rfl (mX2_skipBlanks h4) (k_V (fun X6 Y7 h8 => ?_))
  refine v_aload_n O dX2_takePlace_37 rfl 1 rfl ?_
  refine v_get O dX2_takePlace_38 fo_X2_33 sh_24 rfl rfl ?_
  refine v_if_ne (tgt := 49) O dX2_takePlace_41 (by decide) (fun g9 => ?_) (fun g9 => ?_)
  · exact v_vret O r dX2_takePlace_49 ⟨rfl, (h8.1 g9)⟩
  · refine v_iload_n O dX2_takePlace_44 rfl 2 rfl ?_
    refine v_iconst O dX2_takePlace_45 kc_4 ?_
    refine v_icmp_lt (tgt := 50) O dX2_takePlace_46 (by decide) (fun g10 => ?_) (fun g10 => ?_)
    · refine v_aload_n O dX2_takePlace_50 rfl 1 rfl ?_
      refine v_get O dX2_takePlace_51 fo_X2_9 sh_24 rfl rfl ?_
      refine v_iload_n O dX2_takePlace_54 rfl 2 rfl ?_
      refine v_iload_n O dX2_takePlace_55 rfl 0 rfl ?_
      refine v_iast O dX2_takePlace_56 sh_25 ((h8.2 g9).1 g10).1 ?_
      refine v_aload_n O dX2_takePlace_57 rfl 1 rfl ?_
      refine v_iload_n O dX2_takePlace_58 rfl 2 rfl ?_
      refine v_iconst O dX2_takePlace_59 kc_1 ?_
      refine v_iadd O dX2_takePlace_60 ?_
      refine v_putI O dX2_takePlace_61 fo_X2_39 fp_2_10 sh_24 rfl rfl rfl ?_
      refine v_nmX (fun X11 hX12 => ?_)
      refine v_aload_n O dX2_takePlace_64 rfl 1 rfl ?_
      refine v_get O dX2_takePlace_65 fo_X2_21 sh_24 rfl rfl ?_
      refine v_aload_n O dX2_takePlace_68 rfl 1 rfl ?_
      refine v_get O dX2_takePlace_69 fo_X2_29 sh_24 rfl rfl ?_
      refine v_callV (rm' := { frames := 1, cells := 0, slots := 0, locals := 22 }) (As := [.int (X11 24 5)]) (st := []) O dX2_takePlace_72 ci_X8_isLetter ml_X2_111 mi_X8_isLetter sh_1 rfl ⟨rfl, rfl, (by decide), (by decide)⟩ rfl (Nat.le_of_ble_eq_true rfl) rfl (mX8_isLetter (((h8.2 g9).1 g10).2 X11 hX12)) (k_I (fun r13 X14 Y15 h16 => ?_))
      refine v_if_eq (tgt := 86) O dX2_takePlace_75 (by decide) (fun g17 => ?_) (fun g17 => ?_)
      · refine v_aload_n O dX2_takePlace_86 rfl 1 rfl ?_
        refine v_get O dX2_takePlace_87 fo_X2_21 sh_24 rfl rfl ?_
        refine v_aload_n O dX2_takePlace_90 rfl 1 rfl ?_
        refine v_get O dX2_takePlace_91 fo_X2_29 sh_24 rfl rfl ?_
        refine v_callV (rm' := { frames := 0, cells := 0, slots := 0, locals := 0 }) (As := [.int (X14 24 5)]) (st := []) O dX2_takePlace_94 ci_X8_at ml_X2_78 mi_X8_at sh_1 rfl ⟨rfl, rfl, (by decide), (by decide)⟩ rfl (Nat.le_of_ble_eq_true rfl) rfl (mX8_at (h16.1 g17)) (k_I (fun r18 X19 Y20 h21 => ?_))
        refine v_bipush O dX2_takePlace_97 kb_91 ?_
        refine v_icmp_ne (tgt := 110) O dX2_takePlace_99 (by decide) (fun g22 => ?_) (fun g22 => ?_)
        · refine v_aload_n O dX2_takePlace_110 rfl 1 rfl ?_
          refine v_iconst O dX2_takePlace_111 kc_1 ?_
          refine v_aload_n O dX2_takePlace_112 rfl 1 rfl ?_
          refine v_get O dX2_takePlace_113 fo_X2_29 sh_24 rfl rfl ?_
          refine v_callV (rm' := { frames := 0, cells := 0, slots := 0, locals := 0 }) (As := [.int 1, .int (X19 24 5)]) (st := []) O dX2_takePlace_116 ci_X2_fail ml_X2_84 mi_X2_fail sh_24 rfl ⟨rfl, rfl, (by decide), (by decide)⟩ rfl (Nat.le_of_ble_eq_true rfl) rfl (mX2_fail (h21.1 g22)) (k_V (fun X24 Y25 h26 => ?_))
          exact v_vret O r dX2_takePlace_119 ⟨rfl, h26⟩
        · refine v_aload_n O dX2_takePlace_102 rfl 1 rfl ?_
          refine v_iload_n O dX2_takePlace_103 rfl 2 rfl ?_
          refine v_callV (rm' := { frames := 3, cells := 0, slots := 0, locals := 67 }) (As := [.int a1]) (st := []) O dX2_takePlace_104 ci_X2_takeBar ml_X2_117 mi_X2_takeBar sh_24 rfl ⟨rfl, rfl, (by decide), (by decide)⟩ rfl (Nat.le_of_ble_eq_true rfl) rfl (mX2_takeBar (h21.2 g22)) (k_V (fun X28 Y29 h30 => ?_))
          refine v_goto O dX2_takePlace_107 (tgt := 119) (by decide) ?_
          exact v_vret O r dX2_takePlace_119 ⟨rfl, h30⟩
      · refine v_aload_n O dX2_takePlace_78 rfl 1 rfl ?_
        refine v_iload_n O dX2_takePlace_79 rfl 2 rfl ?_
        refine v_callV (rm' := { frames := 3, cells := 0, slots := 0, locals := 69 }) (As := [.int a1]) (st := []) O dX2_takePlace_80 ci_X2_takeShown ml_X2_114 mi_X2_takeShown sh_24 rfl ⟨rfl, rfl, (by decide), (by decide)⟩ rfl (Nat.le_of_ble_eq_true rfl) rfl (mX2_takeShown (h16.2 g17)) (k_V (fun X32 Y33 h34 => ?_))
        refine v_goto O dX2_takePlace_83 (tgt := 119) (by decide) ?_
        exact v_vret O r dX2_takePlace_119 ⟨rfl, h34⟩
    · exact v_vret O r dX2_takePlace_49 ⟨rfl, ((h8.2 g9).2 g10)⟩
set_option maxHeartbeats 4000000 in
set_option maxRecDepth 100000 in
theorem kX2_takePlace_s {Γ : Cxt} {Q : XT → YT → Prop} (O : Ok Γ RX2 cX2_takePlace 4 { frames := 5, cells := 0, slots := 0, locals := 109 }) (r : Ret Γ none (qV Q)) {I26 : Int32 → XT → YT → Prop} (e26 : ∀ (a1 : Int32) (X : XT) (Y : YT), I26 a1 X Y → V Γ 26 [(0, .ref 24), (1, .int a1)] [] X Y) {p0 : Int32} {X : XT} {Y : YT} (h : BX2_takePlace_s I26 Q p0 X Y) : V Γ 0 [(0, .ref 24), (1, .int p0)] [] X Y := by
  refine v_aload_n O dX2_takePlace_0 rfl 0 rfl ?_
  refine v_callV (rm' := { frames := 1, cells := 0, slots := 0, locals := 21 }) (As := []) (st := []) O dX2_takePlace_1 ci_X2_skipBlanks ml_X2_81 mi_X2_skipBlanks sh_24 rfl ⟨rfl, rfl, (by decide), (by decide)⟩ rfl (Nat.le_of_ble_eq_true rfl) rfl (mX2_skipBlanks h) (k_V (fun X2 Y3 h4 => ?_))
  refine v_aload_n O dX2_takePlace_4 rfl 0 rfl ?_
  refine v_get O dX2_takePlace_5 fo_X2_29 sh_24 rfl rfl ?_
  refine v_topi (fun w5 hw6 => ?_)
  refine v_istore_n (lv' := [(2, .int w5), (0, .ref 24), (1, .int p0)]) O dX2_takePlace_8 rfl (by decide) rfl ?_
  refine v_aload_n O dX2_takePlace_9 rfl 1 rfl ?_
  refine v_ldcS2 O dX2_takePlace_10 ?_
  refine v_callV (rm' := { frames := 4, cells := 0, slots := 0, locals := 85 }) (As := [.ref 82]) (st := []) O dX2_takePlace_12 ci_X2_takeWord ml_X2_50 mi_X2_takeWord sh_24 rfl ⟨rfl, rfl, (by decide), (by decide)⟩ rfl (Nat.le_of_ble_eq_true rfl) rfl (mX2_takeWord (h4 w5 hw6)) (k_V (fun X8 Y9 h10 => ?_))
  refine v_iload_n O dX2_takePlace_15 rfl 2 rfl ?_
  refine v_iconst O dX2_takePlace_16 kc_4 ?_
  refine v_icmp_lt (tgt := 26) O dX2_takePlace_17 (by decide) (fun g11 => ?_) (fun g11 => ?_)
  · exact v_loc [1, 2] rfl (e26 p0 X8 Y9 (h10.1 g11))
  · refine v_aload_n O dX2_takePlace_20 rfl 1 rfl ?_
    refine v_iconst O dX2_takePlace_21 kc_4 ?_
    refine v_iload_n O dX2_takePlace_22 rfl 0 rfl ?_
    refine v_callV (rm' := { frames := 0, cells := 0, slots := 0, locals := 0 }) (As := [.int 4, .int w5]) (st := []) O dX2_takePlace_23 ci_X2_fail ml_X2_84 mi_X2_fail sh_24 rfl ⟨rfl, rfl, (by decide), (by decide)⟩ rfl (Nat.le_of_ble_eq_true rfl) rfl (mX2_fail (h10.2 g11)) (k_V (fun X13 Y14 h15 => ?_))
    exact v_loc [1, 2] rfl (e26 p0 X13 Y14 h15)
set_option maxRecDepth 100000 in
theorem mX2_takePlace {Γ : Cxt} {p0 : Int32} {X : XT} {Y : YT} {Q : XT → YT → Prop} (h : PX2_takePlace p0 X Y Q) : MT Γ yX2_takePlace (.code yX2_takePlace cX2_takePlace 4 none :: wl) { frames := 5, cells := 0, slots := 0, locals := 109 } [.ref 24, .int p0] X Y (qV Q) :=
  mt_of (by decide) (Nat.le_of_ble_eq_true rfl) (fun Γ _ O r => kX2_takePlace_s O r (fun _ _ _ g => g) (h (fun a1 X Y => V Γ 26 [(0, .ref 24), (1, .int a1)] [] X Y) (fun _ _ _ g => kX2_takePlace_26 O r (fun _ _ _ g => g) g)))
theorem dX2_parse_0 : decode cX2_parse 0 = .ok (.aload_n 0, 1) := by decide +kernel
theorem dX2_parse_1 : decode cX2_parse 1 = .ok (.iconst 0, 1) := by decide +kernel
theorem dX2_parse_2 : decode cX2_parse 2 = .ok (.putfield 29, 3) := by decide +kernel
theorem dX2_parse_5 : decode cX2_parse 5 = .ok (.aload_n 0, 1) := by decide +kernel
theorem dX2_parse_6 : decode cX2_parse 6 = .ok (.iconst 0, 1) := by decide +kernel
theorem dX2_parse_7 : decode cX2_parse 7 = .ok (.putfield 33, 3) := by decide +kernel
theorem dX2_parse_10 : decode cX2_parse 10 = .ok (.aload_n 0, 1) := by decide +kernel
theorem dX2_parse_11 : decode cX2_parse 11 = .ok (.iconst (-1), 1) := by decide +kernel
theorem dX2_parse_12 : decode cX2_parse 12 = .ok (.putfield 36, 3) := by decide +kernel
theorem dX2_parse_15 : decode cX2_parse 15 = .ok (.aload_n 0, 1) := by decide +kernel
theorem dX2_parse_16 : decode cX2_parse 16 = .ok (.iconst 0, 1) := by decide +kernel
theorem dX2_parse_17 : decode cX2_parse 17 = .ok (.putfield 39, 3) := by decide +kernel
theorem dX2_parse_20 : decode cX2_parse 20 = .ok (.aload_n 0, 1) := by decide +kernel
theorem dX2_parse_21 : decode cX2_parse 21 = .ok (.iload_n 1, 1) := by decide +kernel
theorem dX2_parse_22 : decode cX2_parse 22 = .ok (.putfield 42, 3) := by decide +kernel
theorem dX2_parse_25 : decode cX2_parse 25 = .ok (.aload_n 0, 1) := by decide +kernel
theorem dX2_parse_26 : decode cX2_parse 26 = .ok (.iconst 0, 1) := by decide +kernel
theorem dX2_parse_27 : decode cX2_parse 27 = .ok (.putfield 45, 3) := by decide +kernel
theorem dX2_parse_30 : decode cX2_parse 30 = .ok (.aload_n 0, 1) := by decide +kernel
theorem dX2_parse_31 : decode cX2_parse 31 = .ok (.ldc 48, 2) := by decide +kernel
theorem dX2_parse_33 : decode cX2_parse 33 = .ok (.invokevirtual 50, 3) := by decide +kernel
theorem dX2_parse_36 : decode cX2_parse 36 = .ok (.aload_n 0, 1) := by decide +kernel
theorem dX2_parse_37 : decode cX2_parse 37 = .ok (.aload_n 0, 1) := by decide +kernel
theorem dX2_parse_38 : decode cX2_parse 38 = .ok (.iconst 0, 1) := by decide +kernel
theorem dX2_parse_39 : decode cX2_parse 39 = .ok (.bipush 99, 2) := by decide +kernel
theorem dX2_parse_41 : decode cX2_parse 41 = .ok (.invokevirtual 54, 3) := by decide +kernel
theorem dX2_parse_44 : decode cX2_parse 44 = .ok (.putfield 58, 3) := by decide +kernel
theorem dX2_parse_47 : decode cX2_parse 47 = .ok (.aload_n 0, 1) := by decide +kernel
theorem dX2_parse_48 : decode cX2_parse 48 = .ok (.ldc 60, 2) := by decide +kernel
theorem dX2_parse_50 : decode cX2_parse 50 = .ok (.invokevirtual 50, 3) := by decide +kernel
theorem dX2_parse_53 : decode cX2_parse 53 = .ok (.aload_n 0, 1) := by decide +kernel
theorem dX2_parse_54 : decode cX2_parse 54 = .ok (.aload_n 0, 1) := by decide +kernel
theorem dX2_parse_55 : decode cX2_parse 55 = .ok (.iconst 0, 1) := by decide +kernel
theorem dX2_parse_56 : decode cX2_parse 56 = .ok (.iconst 1, 1) := by decide +kernel
theorem dX2_parse_57 : decode cX2_parse 57 = .ok (.invokevirtual 54, 3) := by decide +kernel
theorem dX2_parse_60 : decode cX2_parse 60 = .ok (.putfield 62, 3) := by decide +kernel
theorem dX2_parse_63 : decode cX2_parse 63 = .ok (.aload_n 0, 1) := by decide +kernel
theorem dX2_parse_64 : decode cX2_parse 64 = .ok (.bipush 58, 2) := by decide +kernel
theorem dX2_parse_66 : decode cX2_parse 66 = .ok (.invokevirtual 64, 3) := by decide +kernel
theorem dX2_parse_69 : decode cX2_parse 69 = .ok (.iconst 1, 1) := by decide +kernel
theorem dX2_parse_70 : decode cX2_parse 70 = .ok (.istore_n 2, 1) := by decide +kernel
theorem dX2_parse_71 : decode cX2_parse 71 = .ok (.iconst 0, 1) := by decide +kernel
theorem dX2_parse_72 : decode cX2_parse 72 = .ok (.istore_n 3, 1) := by decide +kernel
theorem dX2_parse_73 : decode cX2_parse 73 = .ok (.iload_n 3, 1) := by decide +kernel
theorem dX2_parse_74 : decode cX2_parse 74 = .ok (.iconst 4, 1) := by decide +kernel
theorem dX2_parse_75 : decode cX2_parse 75 = .ok (.if_icmp .gt 30, 3) := by decide +kernel
theorem dX2_parse_78 : decode cX2_parse 78 = .ok (.iload_n 2, 1) := by decide +kernel
theorem dX2_parse_79 : decode cX2_parse 79 = .ok (.ifCond .eq 26, 3) := by decide +kernel
theorem dX2_parse_82 : decode cX2_parse 82 = .ok (.aload_n 0, 1) := by decide +kernel
theorem dX2_parse_83 : decode cX2_parse 83 = .ok (.getfield 33, 3) := by decide +kernel
theorem dX2_parse_86 : decode cX2_parse 86 = .ok (.ifCond .ne 19, 3) := by decide +kernel
theorem dX2_parse_89 : decode cX2_parse 89 = .ok (.aload_n 0, 1) := by decide +kernel
theorem dX2_parse_90 : decode cX2_parse 90 = .ok (.iload_n 3, 1) := by decide +kernel
theorem dX2_parse_91 : decode cX2_parse 91 = .ok (.invokevirtual 68, 3) := by decide +kernel
theorem dX2_parse_94 : decode cX2_parse 94 = .ok (.aload_n 0, 1) := by decide +kernel
theorem dX2_parse_95 : decode cX2_parse 95 = .ok (.invokevirtual 71, 3) := by decide +kernel
theorem dX2_parse_98 : decode cX2_parse 98 = .ok (.istore_n 2, 1) := by decide +kernel
theorem dX2_parse_99 : decode cX2_parse 99 = .ok (.iinc 3 1, 3) := by decide +kernel
theorem dX2_parse_102 : decode cX2_parse 102 = .ok (.goto (-29), 3) := by decide +kernel
theorem dX2_parse_105 : decode cX2_parse 105 = .ok (.return_, 1) := by decide +kernel
def BX2_parse_73 (I73 : Int32 → Int32 → XT → YT → Prop) (Q : XT → YT → Prop) (a2 : Int32) (a3 : Int32) (X : XT) (Y : YT) : Prop :=
  ((4 < a3 → Q X Y) ∧ (¬ 4 < a3 → ((a2 = 0 → Q X Y) ∧ (¬ a2 = 0 → ((¬ (X 24 6) = 0 → Q X Y) ∧ ((X 24 6) = 0 → PX2_takePlace a3 X Y (fun X5 Y6 => PX2_takeComma X5 Y6 (fun r8 X9 Y10 => ∀ w12 : Int32, w12 = a3 + 1 → I73 r8 w12 X9 Y10))))))))
def BX2_parse_s (I73 : Int32 → Int32 → XT → YT → Prop) (Q : XT → YT → Prop) (p0 : Int32) (X : XT) (Y : YT) : Prop :=
  ∀ X1 : XT, X1 = sX (sX (sX (sX X 24 5 0) 24 6 0) 24 7 (-1)) 24 10 0 → PX2_takeWord 0 (sX (sX X1 24 11 p0) 24 12 0) Y (fun X4 Y5 => PX2_takeNumber 0 99 X4 Y5 (fun r7 X8 Y9 => PX2_takeWord 1 (sX X8 24 8 r7) Y9 (fun X12 Y13 => PX2_takeNumber 0 1 X12 Y13 (fun r15 X16 Y17 => PX2_takeSign 58 (sX X16 24 9 r15) Y17 (fun X20 Y21 => I73 1 0 X20 Y21)))))
def PX2_parse (p0 : Int32) (X : XT) (Y : YT) (Q : XT → YT → Prop) : Prop := ∀ (I73 : Int32 → Int32 → XT → YT → Prop), (∀ (a2 : Int32) (a3 : Int32) (X : XT) (Y : YT), BX2_parse_73 I73 Q a2 a3 X Y → I73 a2 a3 X Y) → BX2_parse_s I73 Q p0 X Y
set_option maxHeartbeats 4000000 in
set_option maxRecDepth 100000 in
theorem kX2_parse_73 {Γ : Cxt} {Q : XT → YT → Prop} (O : Ok Γ RX2 cX2_parse 4 { frames := 6, cells := 0, slots := 0, locals := 132 }) (r : Ret Γ none (qV Q)) {I73 : Int32 → Int32 → XT → YT → Prop} (e73 : ∀ (a2 : Int32) (a3 : Int32) (X : XT) (Y : YT), I73 a2 a3 X Y → V Γ 73 [(0, .ref 24), (2, .int a2), (3, .int a3)] [] X Y) {a2 : Int32} {a3 : Int32} {X : XT} {Y : YT} (h : BX2_parse_73 I73 Q a2 a3 X Y) : V Γ 73 [(0, .ref 24), (2, .int a2), (3, .int a3)] [] X Y := by
  refine v_iload_n O dX2_parse_73 rfl 2 rfl ?_
  refine v_iconst O dX2_parse_74 kc_4 ?_
  refine v_icmp_gt (tgt := 105) O dX2_parse_75 (by decide) (fun g1 => ?_) (fun g1 => ?_)
  · exact v_vret O r dX2_parse_105 ⟨rfl, (h.1 g1)⟩
  · refine v_iload_n O dX2_parse_78 rfl 1 rfl ?_
    refine v_if_eq (tgt := 105) O dX2_parse_79 (by decide) (fun g2 => ?_) (fun g2 => ?_)
    · exact v_vret O r dX2_parse_105 ⟨rfl, ((h.2 g1).1 g2)⟩
    · refine v_aload_n O dX2_parse_82 rfl 0 rfl ?_
      refine v_get O dX2_parse_83 fo_X2_33 sh_24 rfl rfl ?_
      refine v_if_ne (tgt := 105) O dX2_parse_86 (by decide) (fun g3 => ?_) (fun g3 => ?_)
      · exact v_vret O r dX2_parse_105 ⟨rfl, (((h.2 g1).2 g2).1 g3)⟩
      · refine v_aload_n O dX2_parse_89 rfl 0 rfl ?_
        refine v_iload_n O dX2_parse_90 rfl 2 rfl ?_
        refine v_callV (rm' := { frames := 5, cells := 0, slots := 0, locals := 109 }) (As := [.int a3]) (st := []) O dX2_parse_91 ci_X2_takePlace ml_X2_68 mi_X2_takePlace sh_24 rfl ⟨rfl, rfl, (by decide), (by decide)⟩ rfl (Nat.le_of_ble_eq_true rfl) rfl (mX2_takePlace (((h.2 g1).2 g2).2 g3)) (k_V (fun X5 Y6 h7 => ?_))
        refine v_aload_n O dX2_parse_94 rfl 0 rfl ?_
        refine v_callV (rm' := { frames := 3, cells := 0, slots := 0, locals := 62 }) (As := []) (st := []) O dX2_parse_95 ci_X2_takeComma ml_X2_71 mi_X2_takeComma sh_24 rfl ⟨rfl, rfl, (by decide), (by decide)⟩ rfl (Nat.le_of_ble_eq_true rfl) rfl (mX2_takeComma h7) (k_I (fun r8 X9 Y10 h11 => ?_))
        refine v_istore_n (lv' := [(2, .int r8), (0, .ref 24), (3, .int a3)]) O dX2_parse_98 rfl (by decide) rfl ?_
        obtain ⟨w12, hw13⟩ : ∃ y : Int32, y = a3 + 1 := ⟨_, rfl⟩
        refine v_iinc (v := w12) (j := 2) O dX2_parse_99 rfl (by rw [hw13]; exact congrArg _ kc_1) (by decide) (lv' := [(3, .int w12), (2, .int r8), (0, .ref 24)]) rfl ?_
        refine v_goto O dX2_parse_102 (tgt := 73) (by decide) ?_
        exact v_loc [2, 1, 0] rfl (e73 r8 w12 X9 Y10 (h11 w12 hw13))
set_option maxHeartbeats 4000000 in
set_option maxRecDepth 100000 in
theorem kX2_parse_s {Γ : Cxt} {Q : XT → YT → Prop} (O : Ok Γ RX2 cX2_parse 4 { frames := 6, cells := 0, slots := 0, locals := 132 }) (r : Ret Γ none (qV Q)) {I73 : Int32 → Int32 → XT → YT → Prop} (e73 : ∀ (a2 : Int32) (a3 : Int32) (X : XT) (Y : YT), I73 a2 a3 X Y → V Γ 73 [(0, .ref 24), (2, .int a2), (3, .int a3)] [] X Y) {p0 : Int32} {X : XT} {Y : YT} (h : BX2_parse_s I73 Q p0 X Y) : V Γ 0 [(0, .ref 24), (1, .int p0)] [] X Y := by
  refine v_aload_n O dX2_parse_0 rfl 0 rfl ?_
  refine v_iconst O dX2_parse_1 kc_0 ?_
  refine v_putI O dX2_parse_2 fo_X2_29 fp_2_5 sh_24 rfl rfl rfl ?_
  refine v_aload_n O dX2_parse_5 rfl 0 rfl ?_
  refine v_iconst O dX2_parse_6 kc_0 ?_
  refine v_putI O dX2_parse_7 fo_X2_33 fp_2_6 sh_24 rfl rfl rfl ?_
  refine v_aload_n O dX2_parse_10 rfl 0 rfl ?_
  refine v_iconst O dX2_parse_11 kc_m1 ?_
  refine v_putI O dX2_parse_12 fo_X2_36 fp_2_7 sh_24 rfl rfl rfl ?_
  refine v_aload_n O dX2_parse_15 rfl 0 rfl ?_
  refine v_iconst O dX2_parse_16 kc_0 ?_
  refine v_putI O dX2_parse_17 fo_X2_39 fp_2_10 sh_24 rfl rfl rfl ?_
  refine v_nmX (fun X1 hX2 => ?_)
  refine v_aload_n O dX2_parse_20 rfl 0 rfl ?_
  refine v_iload_n O dX2_parse_21 rfl 1 rfl ?_
  refine v_putI O dX2_parse_22 fo_X2_42 fp_2_11 sh_24 rfl rfl rfl ?_
  refine v_aload_n O dX2_parse_25 rfl 0 rfl ?_
  refine v_iconst O dX2_parse_26 kc_0 ?_
  refine v_putI O dX2_parse_27 fo_X2_45 fp_2_12 sh_24 rfl rfl rfl ?_
  refine v_aload_n O dX2_parse_30 rfl 0 rfl ?_
  refine v_ldcS0 O dX2_parse_31 ?_
  refine v_callV (rm' := { frames := 4, cells := 0, slots := 0, locals := 85 }) (As := [.ref 80]) (st := []) O dX2_parse_33 ci_X2_takeWord ml_X2_50 mi_X2_takeWord sh_24 rfl ⟨rfl, rfl, (by decide), (by decide)⟩ rfl (Nat.le_of_ble_eq_true rfl) rfl (mX2_takeWord (h X1 hX2)) (k_V (fun X4 Y5 h6 => ?_))
  refine v_aload_n O dX2_parse_36 rfl 0 rfl ?_
  refine v_aload_n O dX2_parse_37 rfl 0 rfl ?_
  refine v_iconst O dX2_parse_38 kc_0 ?_
  refine v_bipush O dX2_parse_39 kb_99 ?_
  refine v_callV (rm' := { frames := 2, cells := 0, slots := 0, locals := 43 }) (As := [.int 0, .int 99]) (st := [.ref 24]) O dX2_parse_41 ci_X2_takeNumber ml_X2_54 mi_X2_takeNumber sh_24 rfl ⟨rfl, rfl, (by decide), (by decide)⟩ rfl (Nat.le_of_ble_eq_true rfl) rfl (mX2_takeNumber h6) (k_I (fun r7 X8 Y9 h10 => ?_))
  refine v_putI O dX2_parse_44 fo_X2_58 fp_2_8 sh_24 rfl rfl rfl ?_
  refine v_aload_n O dX2_parse_47 rfl 0 rfl ?_
  refine v_ldcS1 O dX2_parse_48 ?_
  refine v_callV (rm' := { frames := 4, cells := 0, slots := 0, locals := 85 }) (As := [.ref 81]) (st := []) O dX2_parse_50 ci_X2_takeWord ml_X2_50 mi_X2_takeWord sh_24 rfl ⟨rfl, rfl, (by decide), (by decide)⟩ rfl (Nat.le_of_ble_eq_true rfl) rfl (mX2_takeWord h10) (k_V (fun X12 Y13 h14 => ?_))
  refine v_aload_n O dX2_parse_53 rfl 0 rfl ?_
  refine v_aload_n O dX2_parse_54 rfl 0 rfl ?_
  refine v_iconst O dX2_parse_55 kc_0 ?_
  refine v_iconst O dX2_parse_56 kc_1 ?_
  refine v_callV (rm' := { frames := 2, cells := 0, slots := 0, locals := 43 }) (As := [.int 0, .int 1]) (st := [.ref 24]) O dX2_parse_57 ci_X2_takeNumber ml_X2_54 mi_X2_takeNumber sh_24 rfl ⟨rfl, rfl, (by decide), (by decide)⟩ rfl (Nat.le_of_ble_eq_true rfl) rfl (mX2_takeNumber h14) (k_I (fun r15 X16 Y17 h18 => ?_))
  refine v_putI O dX2_parse_60 fo_X2_62 fp_2_9 sh_24 rfl rfl rfl ?_
  refine v_aload_n O dX2_parse_63 rfl 0 rfl ?_
  refine v_bipush O dX2_parse_64 kb_58 ?_
  refine v_callV (rm' := { frames := 2, cells := 0, slots := 0, locals := 41 }) (As := [.int 58]) (st := []) O dX2_parse_66 ci_X2_takeSign ml_X2_64 mi_X2_takeSign sh_24 rfl ⟨rfl, rfl, (by decide), (by decide)⟩ rfl (Nat.le_of_ble_eq_true rfl) rfl (mX2_takeSign h18) (k_V (fun X20 Y21 h22 => ?_))
  refine v_iconst O dX2_parse_69 kc_1 ?_
  refine v_istore_n (lv' := [(2, .int 1), (0, .ref 24), (1, .int p0)]) O dX2_parse_70 rfl (by decide) rfl ?_
  refine v_iconst O dX2_parse_71 kc_0 ?_
  refine v_istore_n (lv' := [(3, .int 0), (2, .int 1), (0, .ref 24), (1, .int p0)]) O dX2_parse_72 rfl (by decide) rfl ?_
  exact v_loc [2, 1, 0] rfl (e73 1 0 X20 Y21 h22)
set_option maxRecDepth 100000 in
theorem mX2_parse {Γ : Cxt} {p0 : Int32} {X : XT} {Y : YT} {Q : XT → YT → Prop} (h : PX2_parse p0 X Y Q) : MT Γ yX2_parse (.code yX2_parse cX2_parse 4 none :: wl) { frames := 6, cells := 0, slots := 0, locals := 132 } [.ref 24, .int p0] X Y (qV Q) :=
  mt_of (by decide) (Nat.le_of_ble_eq_true rfl) (fun Γ _ O r => kX2_parse_s O r (fun _ _ _ _ g => g) (h (fun a2 a3 X Y => V Γ 73 [(0, .ref 24), (2, .int a2), (3, .int a3)] [] X Y) (fun _ _ _ _ g => kX2_parse_73 O r (fun _ _ _ _ g => g) g)))
theorem dX3_isBar_0 : decode cX3_isBar 0 = .ok (.iload_n 1, 1) := by decide +kernel
theorem dX3_isBar_1 : decode cX3_isBar 1 = .ok (.iconst 0, 1) := by decide +kernel
theorem dX3_isBar_2 : decode cX3_isBar 2 = .ok (.aload_n 0, 1) := by decide +kernel
theorem dX3_isBar_3 : decode cX3_isBar 3 = .ok (.getfield 52, 3) := by decide +kernel
theorem dX3_isBar_6 : decode cX3_isBar 6 = .ok (.iconst 1, 1) := by decide +kernel
theorem dX3_isBar_7 : decode cX3_isBar 7 = .ok (.isub, 1) := by decide +kernel
theorem dX3_isBar_8 : decode cX3_isBar 8 = .ok (.invokestatic 58, 3) := by decide +kernel
theorem dX3_isBar_11 : decode cX3_isBar 11 = .ok (.ireturn, 1) := by decide +kernel
def BX3_isBar_s (Q : Int32 → XT → YT → Prop) (p0 : Int32) (X : XT) (Y : YT) : Prop :=
  PX9_within p0 0 ((X 13 13) - 1) X Y (fun r1 X2 Y3 => narrow .boolean (.int r1) = .int r1 ∧ Q r1 X2 Y3)
def PX3_isBar (p0 : Int32) (X : XT) (Y : YT) (Q : Int32 → XT → YT → Prop) : Prop :=  BX3_isBar_s Q p0 X Y
set_option maxHeartbeats 4000000 in
set_option maxRecDepth 100000 in
theorem kX3_isBar_s {Γ : Cxt} {Q : Int32 → XT → YT → Prop} (O : Ok Γ RX3 cX3_isBar 2 { frames := 1, cells := 0, slots := 0, locals := 22 }) (r : Ret Γ (some .boolean) (qI Q)) {p0 : Int32} {X : XT} {Y : YT} (h : BX3_isBar_s Q p0 X Y) : V Γ 0 [(0, .ref 13), (1, .int p0)] [] X Y := by
  refine v_iload_n O dX3_isBar_0 rfl 1 rfl ?_
  refine v_iconst O dX3_isBar_1 kc_0 ?_
  refine v_aload_n O dX3_isBar_2 rfl 0 rfl ?_
  refine v_get O dX3_isBar_3 fo_X3_52 sh_13 rfl rfl ?_
  refine v_iconst O dX3_isBar_6 kc_1 ?_
  refine v_isub O dX3_isBar_7 ?_
  refine v_callN (rm' := { frames := 0, cells := 0, slots := 0, locals := 0 }) (As := [.int p0, .int 0, .int ((X 13 13) - 1)]) (st := []) O dX3_isBar_8 ci_X9_within ml_X3_58 ms_X9_within ⟨rfl, rfl, (by decide), (by decide)⟩ rfl (Nat.le_of_ble_eq_true rfl) rfl (mX9_within h) (k_I (fun r1 X2 Y3 h4 => ?_))
  exact v_zret O r dX3_isBar_11 h4.1 ⟨_, rfl, h4.2⟩
set_option maxRecDepth 100000 in
theorem mX3_isBar {Γ : Cxt} {p0 : Int32} {X : XT} {Y : YT} {Q : Int32 → XT → YT → Prop} (h : PX3_isBar p0 X Y Q) : MT Γ yX3_isBar (.code yX3_isBar cX3_isBar 2 (some .boolean) :: wl) { frames := 1, cells := 0, slots := 0, locals := 22 } [.ref 13, .int p0] X Y (qI Q) :=
  mt_of (by decide) (Nat.le_of_ble_eq_true rfl) (fun Γ _ O r => kX3_isBar_s O r  (h ))
theorem dX3_addPlace_0 : decode cX3_addPlace 0 = .ok (.aload_n 0, 1) := by decide +kernel
theorem dX3_addPlace_1 : decode cX3_addPlace 1 = .ok (.getfield 46, 3) := by decide +kernel
theorem dX3_addPlace_4 : decode cX3_addPlace 4 = .ok (.istore 4, 2) := by decide +kernel
theorem dX3_addPlace_6 : decode cX3_addPlace 6 = .ok (.aload_n 0, 1) := by decide +kernel
theorem dX3_addPlace_7 : decode cX3_addPlace 7 = .ok (.dup, 1) := by decide +kernel
theorem dX3_addPlace_8 : decode cX3_addPlace 8 = .ok (.getfield 46, 3) := by decide +kernel
theorem dX3_addPlace_11 : decode cX3_addPlace 11 = .ok (.iconst 1, 1) := by decide +kernel
theorem dX3_addPlace_12 : decode cX3_addPlace 12 = .ok (.iadd, 1) := by decide +kernel
theorem dX3_addPlace_13 : decode cX3_addPlace 13 = .ok (.putfield 46, 3) := by decide +kernel
theorem dX3_addPlace_16 : decode cX3_addPlace 16 = .ok (.aload_n 0, 1) := by decide +kernel
theorem dX3_addPlace_17 : decode cX3_addPlace 17 = .ok (.getfield 18, 3) := by decide +kernel
theorem dX3_addPlace_20 : decode cX3_addPlace 20 = .ok (.iload 4, 2) := by decide +kernel
theorem dX3_addPlace_22 : decode cX3_addPlace 22 = .ok (.aload_n 0, 1) := by decide +kernel
theorem dX3_addPlace_23 : decode cX3_addPlace 23 = .ok (.getfield 42, 3) := by decide +kernel
theorem dX3_addPlace_26 : decode cX3_addPlace 26 = .ok (.iastore, 1) := by decide +kernel
theorem dX3_addPlace_27 : decode cX3_addPlace 27 = .ok (.aload_n 0, 1) := by decide +kernel
theorem dX3_addPlace_28 : decode cX3_addPlace 28 = .ok (.getfield 21, 3) := by decide +kernel
theorem dX3_addPlace_31 : decode cX3_addPlace 31 = .ok (.iload 4, 2) := by decide +kernel
theorem dX3_addPlace_33 : decode cX3_addPlace 33 = .ok (.iload_n 1, 1) := by decide +kernel
theorem dX3_addPlace_34 : decode cX3_addPlace 34 = .ok (.iastore, 1) := by decide +kernel
theorem dX3_addPlace_35 : decode cX3_addPlace 35 = .ok (.aload_n 0, 1) := by decide +kernel
theorem dX3_addPlace_36 : decode cX3_addPlace 36 = .ok (.getfield 24, 3) := by decide +kernel
theorem dX3_addPlace_39 : decode cX3_addPlace 39 = .ok (.iload 4, 2) := by decide +kernel
theorem dX3_addPlace_41 : decode cX3_addPlace 41 = .ok (.iload_n 2, 1) := by decide +kernel
theorem dX3_addPlace_42 : decode cX3_addPlace 42 = .ok (.iastore, 1) := by decide +kernel
theorem dX3_addPlace_43 : decode cX3_addPlace 43 = .ok (.aload_n 0, 1) := by decide +kernel
theorem dX3_addPlace_44 : decode cX3_addPlace 44 = .ok (.getfield 33, 3) := by decide +kernel
theorem dX3_addPlace_47 : decode cX3_addPlace 47 = .ok (.iload 4, 2) := by decide +kernel
theorem dX3_addPlace_49 : decode cX3_addPlace 49 = .ok (.iload_n 3, 1) := by decide +kernel
theorem dX3_addPlace_50 : decode cX3_addPlace 50 = .ok (.iastore, 1) := by decide +kernel
theorem dX3_addPlace_51 : decode cX3_addPlace 51 = .ok (.aload_n 0, 1) := by decide +kernel
theorem dX3_addPlace_52 : decode cX3_addPlace 52 = .ok (.getfield 27, 3) := by decide +kernel
theorem dX3_addPlace_55 : decode cX3_addPlace 55 = .ok (.iload 4, 2) := by decide +kernel
theorem dX3_addPlace_57 : decode cX3_addPlace 57 = .ok (.iconst (-1), 1) := by decide +kernel
theorem dX3_addPlace_58 : decode cX3_addPlace 58 = .ok (.iastore, 1) := by decide +kernel
theorem dX3_addPlace_59 : decode cX3_addPlace 59 = .ok (.aload_n 0, 1) := by decide +kernel
theorem dX3_addPlace_60 : decode cX3_addPlace 60 = .ok (.getfield 30, 3) := by decide +kernel
theorem dX3_addPlace_63 : decode cX3_addPlace 63 = .ok (.iload 4, 2) := by decide +kernel
theorem dX3_addPlace_65 : decode cX3_addPlace 65 = .ok (.iconst (-1), 1) := by decide +kernel
theorem dX3_addPlace_66 : decode cX3_addPlace 66 = .ok (.iastore, 1) := by decide +kernel
theorem dX3_addPlace_67 : decode cX3_addPlace 67 = .ok (.iload_n 2, 1) := by decide +kernel
theorem dX3_addPlace_68 : decode cX3_addPlace 68 = .ok (.iconst (-1), 1) := by decide +kernel
theorem dX3_addPlace_69 : decode cX3_addPlace 69 = .ok (.if_icmp .eq 27, 3) := by decide +kernel
theorem dX3_addPlace_72 : decode cX3_addPlace 72 = .ok (.aload_n 0, 1) := by decide +kernel
theorem dX3_addPlace_73 : decode cX3_addPlace 73 = .ok (.getfield 27, 3) := by decide +kernel
theorem dX3_addPlace_76 : decode cX3_addPlace 76 = .ok (.iload 4, 2) := by decide +kernel
theorem dX3_addPlace_78 : decode cX3_addPlace 78 = .ok (.aload_n 0, 1) := by decide +kernel
theorem dX3_addPlace_79 : decode cX3_addPlace 79 = .ok (.getfield 49, 3) := by decide +kernel
theorem dX3_addPlace_82 : decode cX3_addPlace 82 = .ok (.iastore, 1) := by decide +kernel
theorem dX3_addPlace_83 : decode cX3_addPlace 83 = .ok (.aload_n 0, 1) := by decide +kernel
theorem dX3_addPlace_84 : decode cX3_addPlace 84 = .ok (.dup, 1) := by decide +kernel
theorem dX3_addPlace_85 : decode cX3_addPlace 85 = .ok (.getfield 49, 3) := by decide +kernel
theorem dX3_addPlace_88 : decode cX3_addPlace 88 = .ok (.iconst 1, 1) := by decide +kernel
theorem dX3_addPlace_89 : decode cX3_addPlace 89 = .ok (.iadd, 1) := by decide +kernel
theorem dX3_addPlace_90 : decode cX3_addPlace 90 = .ok (.putfield 49, 3) := by decide +kernel
theorem dX3_addPlace_93 : decode cX3_addPlace 93 = .ok (.goto 44, 3) := by decide +kernel
theorem dX3_addPlace_96 : decode cX3_addPlace 96 = .ok (.aload_n 0, 1) := by decide +kernel
theorem dX3_addPlace_97 : decode cX3_addPlace 97 = .ok (.getfield 52, 3) := by decide +kernel
theorem dX3_addPlace_100 : decode cX3_addPlace 100 = .ok (.bipush 10, 2) := by decide +kernel
theorem dX3_addPlace_102 : decode cX3_addPlace 102 = .ok (.if_icmp .ge 35, 3) := by decide +kernel
theorem dX3_addPlace_105 : decode cX3_addPlace 105 = .ok (.aload_n 0, 1) := by decide +kernel
theorem dX3_addPlace_106 : decode cX3_addPlace 106 = .ok (.getfield 30, 3) := by decide +kernel
theorem dX3_addPlace_109 : decode cX3_addPlace 109 = .ok (.iload 4, 2) := by decide +kernel
theorem dX3_addPlace_111 : decode cX3_addPlace 111 = .ok (.aload_n 0, 1) := by decide +kernel
theorem dX3_addPlace_112 : decode cX3_addPlace 112 = .ok (.getfield 52, 3) := by decide +kernel
theorem dX3_addPlace_115 : decode cX3_addPlace 115 = .ok (.iastore, 1) := by decide +kernel
theorem dX3_addPlace_116 : decode cX3_addPlace 116 = .ok (.aload_n 0, 1) := by decide +kernel
theorem dX3_addPlace_117 : decode cX3_addPlace 117 = .ok (.getfield 36, 3) := by decide +kernel
theorem dX3_addPlace_120 : decode cX3_addPlace 120 = .ok (.aload_n 0, 1) := by decide +kernel
theorem dX3_addPlace_121 : decode cX3_addPlace 121 = .ok (.getfield 52, 3) := by decide +kernel
theorem dX3_addPlace_124 : decode cX3_addPlace 124 = .ok (.iload 4, 2) := by decide +kernel
theorem dX3_addPlace_126 : decode cX3_addPlace 126 = .ok (.iastore, 1) := by decide +kernel
theorem dX3_addPlace_127 : decode cX3_addPlace 127 = .ok (.aload_n 0, 1) := by decide +kernel
theorem dX3_addPlace_128 : decode cX3_addPlace 128 = .ok (.dup, 1) := by decide +kernel
theorem dX3_addPlace_129 : decode cX3_addPlace 129 = .ok (.getfield 52, 3) := by decide +kernel
theorem dX3_addPlace_132 : decode cX3_addPlace 132 = .ok (.iconst 1, 1) := by decide +kernel
theorem dX3_addPlace_133 : decode cX3_addPlace 133 = .ok (.iadd, 1) := by decide +kernel
theorem dX3_addPlace_134 : decode cX3_addPlace 134 = .ok (.putfield 52, 3) := by decide +kernel
theorem dX3_addPlace_137 : decode cX3_addPlace 137 = .ok (.return_, 1) := by decide +kernel
def BX3_addPlace_s (Q : XT → YT → Prop) (p0 : Int32) (p1 : Int32) (p2 : Int32) (X : XT) (Y : YT) : Prop :=
  ∀ w1 : Int32, w1 = (X 13 11) → vp_in w1 32 ∧ ∀ X3 : XT, X3 = sX (sX X 13 11 ((X 13 11) + 1)) 16 w1.toNatClampNeg ((sX X 13 11 ((X 13 11) + 1)) 13 10) → vp_in w1 32 ∧ vp_in w1 32 ∧ ∀ X5 : XT, X5 = sX (sX X3 17 w1.toNatClampNeg p0) 18 w1.toNatClampNeg p1 → vp_in w1 32 ∧ vp_in w1 32 ∧ ∀ X7 : XT, X7 = sX (sX X5 21 w1.toNatClampNeg p2) 19 w1.toNatClampNeg (-1) → vp_in w1 32 ∧ ((p1 = (-1) → ((10 ≤ ((sX X7 20 w1.toNatClampNeg (-1)) 13 13) → Q (sX X7 20 w1.toNatClampNeg (-1)) Y) ∧ (¬ 10 ≤ ((sX X7 20 w1.toNatClampNeg (-1)) 13 13) → vp_in w1 32 ∧ ∀ X11 : XT, X11 = sX (sX X7 20 w1.toNatClampNeg (-1)) 20 w1.toNatClampNeg ((sX X7 20 w1.toNatClampNeg (-1)) 13 13) → vp_in (X11 13 13) 10 ∧ ∀ X13 : XT, X13 = sX (sX X11 22 (X11 13 13).toNatClampNeg w1) 13 13 (((sX X11 22 (X11 13 13).toNatClampNeg w1) 13 13) + 1) → Q X13 Y))) ∧ (¬ p1 = (-1) → vp_in w1 32 ∧ ∀ X15 : XT, X15 = sX (sX X7 20 w1.toNatClampNeg (-1)) 19 w1.toNatClampNeg ((sX X7 20 w1.toNatClampNeg (-1)) 13 12) → Q (sX X15 13 12 ((X15 13 12) + 1)) Y))
def PX3_addPlace (p0 : Int32) (p1 : Int32) (p2 : Int32) (X : XT) (Y : YT) (Q : XT → YT → Prop) : Prop :=  BX3_addPlace_s Q p0 p1 p2 X Y
set_option maxHeartbeats 4000000 in
set_option maxRecDepth 100000 in
theorem kX3_addPlace_s {Γ : Cxt} {Q : XT → YT → Prop} (O : Ok Γ RX3 cX3_addPlace 5 { frames := 0, cells := 0, slots := 0, locals := 0 }) (r : Ret Γ none (qV Q)) {p0 : Int32} {p1 : Int32} {p2 : Int32} {X : XT} {Y : YT} (h : BX3_addPlace_s Q p0 p1 p2 X Y) : V Γ 0 [(0, .ref 13), (1, .int p0), (2, .int p1), (3, .int p2)] [] X Y := by
  refine v_aload_n O dX3_addPlace_0 rfl 0 rfl ?_
  refine v_get O dX3_addPlace_1 fo_X3_46 sh_13 rfl rfl ?_
  refine v_topi (fun w1 hw2 => ?_)
  refine v_istore (lv' := [(4, .int w1), (0, .ref 13), (1, .int p0), (2, .int p1), (3, .int p2)]) O dX3_addPlace_4 (by decide) rfl ?_
  refine v_aload_n O dX3_addPlace_6 rfl 1 rfl ?_
  refine v_dup O dX3_addPlace_7 rfl ?_
  refine v_get O dX3_addPlace_8 fo_X3_46 sh_13 rfl rfl ?_
  refine v_iconst O dX3_addPlace_11 kc_1 ?_
  refine v_iadd O dX3_addPlace_12 ?_
  refine v_putI O dX3_addPlace_13 fo_X3_46 fp_3_11 sh_13 rfl rfl rfl ?_
  refine v_aload_n O dX3_addPlace_16 rfl 1 rfl ?_
  refine v_get O dX3_addPlace_17 fo_X3_18 sh_13 rfl rfl ?_
  refine v_iload O dX3_addPlace_20 0 rfl ?_
  refine v_aload_n O dX3_addPlace_22 rfl 1 rfl ?_
  refine v_get O dX3_addPlace_23 fo_X3_42 sh_13 rfl rfl ?_
  refine v_iast O dX3_addPlace_26 sh_16 (h w1 hw2).1 ?_
  refine v_nmX (fun X3 hX4 => ?_)
  refine v_aload_n O dX3_addPlace_27 rfl 1 rfl ?_
  refine v_get O dX3_addPlace_28 fo_X3_21 sh_13 rfl rfl ?_
  refine v_iload O dX3_addPlace_31 0 rfl ?_
  refine v_iload_n O dX3_addPlace_33 rfl 2 rfl ?_
  refine v_iast O dX3_addPlace_34 sh_17 ((h w1 hw2).2 X3 hX4).1 ?_
  refine v_aload_n O dX3_addPlace_35 rfl 1 rfl ?_
  refine v_get O dX3_addPlace_36 fo_X3_24 sh_13 rfl rfl ?_
  refine v_iload O dX3_addPlace_39 0 rfl ?_
  refine v_iload_n O dX3_addPlace_41 rfl 3 rfl ?_
  refine v_iast O dX3_addPlace_42 sh_18 ((h w1 hw2).2 X3 hX4).2.1 ?_
  refine v_nmX (fun X5 hX6 => ?_)
  refine v_aload_n O dX3_addPlace_43 rfl 1 rfl ?_
  refine v_get O dX3_addPlace_44 fo_X3_33 sh_13 rfl rfl ?_
  refine v_iload O dX3_addPlace_47 0 rfl ?_
  refine v_iload_n O dX3_addPlace_49 rfl 4 rfl ?_
  refine v_iast O dX3_addPlace_50 sh_21 (((h w1 hw2).2 X3 hX4).2.2 X5 hX6).1 ?_
  refine v_aload_n O dX3_addPlace_51 rfl 1 rfl ?_
  refine v_get O dX3_addPlace_52 fo_X3_27 sh_13 rfl rfl ?_
  refine v_iload O dX3_addPlace_55 0 rfl ?_
  refine v_iconst O dX3_addPlace_57 kc_m1 ?_
  refine v_iast O dX3_addPlace_58 sh_19 (((h w1 hw2).2 X3 hX4).2.2 X5 hX6).2.1 ?_
  refine v_nmX (fun X7 hX8 => ?_)
  refine v_aload_n O dX3_addPlace_59 rfl 1 rfl ?_
  refine v_get O dX3_addPlace_60 fo_X3_30 sh_13 rfl rfl ?_
  refine v_iload O dX3_addPlace_63 0 rfl ?_
  refine v_iconst O dX3_addPlace_65 kc_m1 ?_
  refine v_iast O dX3_addPlace_66 sh_20 ((((h w1 hw2).2 X3 hX4).2.2 X5 hX6).2.2 X7 hX8).1 ?_
  refine v_iload_n O dX3_addPlace_67 rfl 3 rfl ?_
  refine v_iconst O dX3_addPlace_68 kc_m1 ?_
  refine v_icmp_eq (tgt := 96) O dX3_addPlace_69 (by decide) (fun g9 => ?_) (fun g9 => ?_)
  · refine v_aload_n O dX3_addPlace_96 rfl 1 rfl ?_
    refine v_get O dX3_addPlace_97 fo_X3_52 sh_13 rfl rfl ?_
    refine v_bipush O dX3_addPlace_100 kb_10 ?_
    refine v_icmp_ge (tgt := 137) O dX3_addPlace_102 (by decide) (fun g10 => ?_) (fun g10 => ?_)
    · exact v_vret O r dX3_addPlace_137 ⟨rfl, ((((((h w1 hw2).2 X3 hX4).2.2 X5 hX6).2.2 X7 hX8).2.1 g9).1 g10)⟩
    · refine v_aload_n O dX3_addPlace_105 rfl 1 rfl ?_
      refine v_get O dX3_addPlace_106 fo_X3_30 sh_13 rfl rfl ?_
      refine v_iload O dX3_addPlace_109 0 rfl ?_
      refine v_aload_n O dX3_addPlace_111 rfl 1 rfl ?_
      refine v_get O dX3_addPlace_112 fo_X3_52 sh_13 rfl rfl ?_
      refine v_iast O dX3_addPlace_115 sh_20 ((((((h w1 hw2).2 X3 hX4).2.2 X5 hX6).2.2 X7 hX8).2.1 g9).2 g10).1 ?_
      refine v_nmX (fun X11 hX12 => ?_)
      refine v_aload_n O dX3_addPlace_116 rfl 1 rfl ?_
      refine v_get O dX3_addPlace_117 fo_X3_36 sh_13 rfl rfl ?_
      refine v_aload_n O dX3_addPlace_120 rfl 1 rfl ?_
      refine v_get O dX3_addPlace_121 fo_X3_52 sh_13 rfl rfl ?_
      refine v_iload O dX3_addPlace_124 0 rfl ?_
      refine v_iast O dX3_addPlace_126 sh_22 (((((((h w1 hw2).2 X3 hX4).2.2 X5 hX6).2.2 X7 hX8).2.1 g9).2 g10).2 X11 hX12).1 ?_
      refine v_aload_n O dX3_addPlace_127 rfl 1 rfl ?_
      refine v_dup O dX3_addPlace_128 rfl ?_
      refine v_get O dX3_addPlace_129 fo_X3_52 sh_13 rfl rfl ?_
      refine v_iconst O dX3_addPlace_132 kc_1 ?_
      refine v_iadd O dX3_addPlace_133 ?_
      refine v_putI O dX3_addPlace_134 fo_X3_52 fp_3_13 sh_13 rfl rfl rfl ?_
      refine v_nmX (fun X13 hX14 => ?_)
      exact v_vret O r dX3_addPlace_137 ⟨rfl, ((((((((h w1 hw2).2 X3 hX4).2.2 X5 hX6).2.2 X7 hX8).2.1 g9).2 g10).2 X11 hX12).2 X13 hX14)⟩
  · refine v_aload_n O dX3_addPlace_72 rfl 1 rfl ?_
    refine v_get O dX3_addPlace_73 fo_X3_27 sh_13 rfl rfl ?_
    refine v_iload O dX3_addPlace_76 0 rfl ?_
    refine v_aload_n O dX3_addPlace_78 rfl 1 rfl ?_
    refine v_get O dX3_addPlace_79 fo_X3_49 sh_13 rfl rfl ?_
    refine v_iast O dX3_addPlace_82 sh_19 (((((h w1 hw2).2 X3 hX4).2.2 X5 hX6).2.2 X7 hX8).2.2 g9).1 ?_
    refine v_nmX (fun X15 hX16 => ?_)
    refine v_aload_n O dX3_addPlace_83 rfl 1 rfl ?_
    refine v_dup O dX3_addPlace_84 rfl ?_
    refine v_get O dX3_addPlace_85 fo_X3_49 sh_13 rfl rfl ?_
    refine v_iconst O dX3_addPlace_88 kc_1 ?_
    refine v_iadd O dX3_addPlace_89 ?_
    refine v_putI O dX3_addPlace_90 fo_X3_49 fp_3_12 sh_13 rfl rfl rfl ?_
    refine v_goto O dX3_addPlace_93 (tgt := 137) (by decide) ?_
    exact v_vret O r dX3_addPlace_137 ⟨rfl, ((((((h w1 hw2).2 X3 hX4).2.2 X5 hX6).2.2 X7 hX8).2.2 g9).2 X15 hX16)⟩
set_option maxRecDepth 100000 in
theorem mX3_addPlace {Γ : Cxt} {p0 : Int32} {p1 : Int32} {p2 : Int32} {X : XT} {Y : YT} {Q : XT → YT → Prop} (h : PX3_addPlace p0 p1 p2 X Y Q) : MT Γ yX3_addPlace (.code yX3_addPlace cX3_addPlace 5 none :: wl) { frames := 0, cells := 0, slots := 0, locals := 0 } [.ref 13, .int p0, .int p1, .int p2] X Y (qV Q) :=
  mt_of (by decide) (Nat.le_of_ble_eq_true rfl) (fun Γ _ O r => kX3_addPlace_s O r  (h ))
theorem dX3_add_0 : decode cX3_add 0 = .ok (.aload_n 0, 1) := by decide +kernel
theorem dX3_add_1 : decode cX3_add 1 = .ok (.getfield 42, 3) := by decide +kernel
theorem dX3_add_4 : decode cX3_add 4 = .ok (.bipush 8, 2) := by decide +kernel
theorem dX3_add_6 : decode cX3_add 6 = .ok (.if_icmp .lt 4, 3) := by decide +kernel
theorem dX3_add_9 : decode cX3_add 9 = .ok (.return_, 1) := by decide +kernel
theorem dX3_add_10 : decode cX3_add 10 = .ok (.aload_n 0, 1) := by decide +kernel
theorem dX3_add_11 : decode cX3_add 11 = .ok (.getfield 9, 3) := by decide +kernel
theorem dX3_add_14 : decode cX3_add 14 = .ok (.aload_n 0, 1) := by decide +kernel
theorem dX3_add_15 : decode cX3_add 15 = .ok (.getfield 42, 3) := by decide +kernel
theorem dX3_add_18 : decode cX3_add 18 = .ok (.aload_n 1, 1) := by decide +kernel
theorem dX3_add_19 : decode cX3_add 19 = .ok (.getfield 62, 3) := by decide +kernel
theorem dX3_add_22 : decode cX3_add 22 = .ok (.iastore, 1) := by decide +kernel
theorem dX3_add_23 : decode cX3_add 23 = .ok (.aload_n 0, 1) := by decide +kernel
theorem dX3_add_24 : decode cX3_add 24 = .ok (.getfield 15, 3) := by decide +kernel
theorem dX3_add_27 : decode cX3_add 27 = .ok (.aload_n 0, 1) := by decide +kernel
theorem dX3_add_28 : decode cX3_add 28 = .ok (.getfield 42, 3) := by decide +kernel
theorem dX3_add_31 : decode cX3_add 31 = .ok (.aload_n 1, 1) := by decide +kernel
theorem dX3_add_32 : decode cX3_add 32 = .ok (.getfield 67, 3) := by decide +kernel
theorem dX3_add_35 : decode cX3_add 35 = .ok (.iastore, 1) := by decide +kernel
theorem dX3_add_36 : decode cX3_add 36 = .ok (.iconst 0, 1) := by decide +kernel
theorem dX3_add_37 : decode cX3_add 37 = .ok (.istore_n 2, 1) := by decide +kernel
theorem dX3_add_38 : decode cX3_add 38 = .ok (.iload_n 2, 1) := by decide +kernel
theorem dX3_add_39 : decode cX3_add 39 = .ok (.aload_n 1, 1) := by decide +kernel
theorem dX3_add_40 : decode cX3_add 40 = .ok (.getfield 70, 3) := by decide +kernel
theorem dX3_add_43 : decode cX3_add 43 = .ok (.if_icmp .ge 45, 3) := by decide +kernel
theorem dX3_add_46 : decode cX3_add 46 = .ok (.iload_n 2, 1) := by decide +kernel
theorem dX3_add_47 : decode cX3_add 47 = .ok (.iconst 4, 1) := by decide +kernel
theorem dX3_add_48 : decode cX3_add 48 = .ok (.if_icmp .ge 40, 3) := by decide +kernel
theorem dX3_add_51 : decode cX3_add 51 = .ok (.aload_n 0, 1) := by decide +kernel
theorem dX3_add_52 : decode cX3_add 52 = .ok (.getfield 46, 3) := by decide +kernel
theorem dX3_add_55 : decode cX3_add 55 = .ok (.bipush 32, 2) := by decide +kernel
theorem dX3_add_57 : decode cX3_add 57 = .ok (.if_icmp .ge 31, 3) := by decide +kernel
theorem dX3_add_60 : decode cX3_add 60 = .ok (.aload_n 0, 1) := by decide +kernel
theorem dX3_add_61 : decode cX3_add 61 = .ok (.aload_n 1, 1) := by decide +kernel
theorem dX3_add_62 : decode cX3_add 62 = .ok (.getfield 71, 3) := by decide +kernel
theorem dX3_add_65 : decode cX3_add 65 = .ok (.iload_n 2, 1) := by decide +kernel
theorem dX3_add_66 : decode cX3_add 66 = .ok (.iaload, 1) := by decide +kernel
theorem dX3_add_67 : decode cX3_add 67 = .ok (.aload_n 1, 1) := by decide +kernel
theorem dX3_add_68 : decode cX3_add 68 = .ok (.getfield 74, 3) := by decide +kernel
theorem dX3_add_71 : decode cX3_add 71 = .ok (.iload_n 2, 1) := by decide +kernel
theorem dX3_add_72 : decode cX3_add 72 = .ok (.iaload, 1) := by decide +kernel
theorem dX3_add_73 : decode cX3_add 73 = .ok (.aload_n 1, 1) := by decide +kernel
theorem dX3_add_74 : decode cX3_add 74 = .ok (.getfield 77, 3) := by decide +kernel
theorem dX3_add_77 : decode cX3_add 77 = .ok (.iload_n 2, 1) := by decide +kernel
theorem dX3_add_78 : decode cX3_add 78 = .ok (.iaload, 1) := by decide +kernel
theorem dX3_add_79 : decode cX3_add 79 = .ok (.invokevirtual 80, 3) := by decide +kernel
theorem dX3_add_82 : decode cX3_add 82 = .ok (.iinc 2 1, 3) := by decide +kernel
theorem dX3_add_85 : decode cX3_add 85 = .ok (.goto (-47), 3) := by decide +kernel
theorem dX3_add_88 : decode cX3_add 88 = .ok (.aload_n 0, 1) := by decide +kernel
theorem dX3_add_89 : decode cX3_add 89 = .ok (.dup, 1) := by decide +kernel
theorem dX3_add_90 : decode cX3_add 90 = .ok (.getfield 42, 3) := by decide +kernel
theorem dX3_add_93 : decode cX3_add 93 = .ok (.iconst 1, 1) := by decide +kernel
theorem dX3_add_94 : decode cX3_add 94 = .ok (.iadd, 1) := by decide +kernel
theorem dX3_add_95 : decode cX3_add 95 = .ok (.putfield 42, 3) := by decide +kernel
theorem dX3_add_98 : decode cX3_add 98 = .ok (.return_, 1) := by decide +kernel
def BX3_add_38 (I38 : Int32 → XT → YT → Prop) (Q : XT → YT → Prop) (a2 : Int32) (X : XT) (Y : YT) : Prop :=
  (((X 24 10) ≤ a2 → Q (sX X 13 10 ((X 13 10) + 1)) Y) ∧ (¬ (X 24 10) ≤ a2 → ((4 ≤ a2 → Q (sX X 13 10 ((X 13 10) + 1)) Y) ∧ (¬ 4 ≤ a2 → ((32 ≤ (X 13 11) → Q (sX X 13 10 ((X 13 10) + 1)) Y) ∧ (¬ 32 ≤ (X 13 11) → vp_in a2 4 ∧ vp_in a2 4 ∧ vp_in a2 4 ∧ PX3_addPlace (X 25 a2.toNatClampNeg) (X 26 a2.toNatClampNeg) (X 27 a2.toNatClampNeg) X Y (fun X5 Y6 => ∀ w8 : Int32, w8 = a2 + 1 → I38 w8 X5 Y6)))))))
def BX3_add_s (I38 : Int32 → XT → YT → Prop) (Q : XT → YT → Prop) (X : XT) (Y : YT) : Prop :=
  (((X 13 10) < 8 → vp_in (X 13 10) 8 ∧ vp_in ((sX X 14 (X 13 10).toNatClampNeg (X 24 8)) 13 10) 8 ∧ ∀ X2 : XT, X2 = sX (sX X 14 (X 13 10).toNatClampNeg (X 24 8)) 15 ((sX X 14 (X 13 10).toNatClampNeg (X 24 8)) 13 10).toNatClampNeg ((sX X 14 (X 13 10).toNatClampNeg (X 24 8)) 24 9) → I38 0 X2 Y) ∧ (¬ (X 13 10) < 8 → Q X Y))
def PX3_add (X : XT) (Y : YT) (Q : XT → YT → Prop) : Prop := ∀ (I38 : Int32 → XT → YT → Prop), (∀ (a2 : Int32) (X : XT) (Y : YT), BX3_add_38 I38 Q a2 X Y → I38 a2 X Y) → BX3_add_s I38 Q X Y
set_option maxHeartbeats 4000000 in
set_option maxRecDepth 100000 in
theorem kX3_add_38 {Γ : Cxt} {Q : XT → YT → Prop} (O : Ok Γ RX3 cX3_add 3 { frames := 1, cells := 0, slots := 0, locals := 24 }) (r : Ret Γ none (qV Q)) {I38 : Int32 → XT → YT → Prop} (e38 : ∀ (a2 : Int32) (X : XT) (Y : YT), I38 a2 X Y → V Γ 38 [(0, .ref 13), (1, .ref 24), (2, .int a2)] [] X Y) {a2 : Int32} {X : XT} {Y : YT} (h : BX3_add_38 I38 Q a2 X Y) : V Γ 38 [(0, .ref 13), (1, .ref 24), (2, .int a2)] [] X Y := by
  refine v_iload_n O dX3_add_38 rfl 2 rfl ?_
  refine v_aload_n O dX3_add_39 rfl 1 rfl ?_
  refine v_get O dX3_add_40 fo_X3_70 sh_24 rfl rfl ?_
  refine v_icmp_ge (tgt := 88) O dX3_add_43 (by decide) (fun g1 => ?_) (fun g1 => ?_)
  · refine v_aload_n O dX3_add_88 rfl 0 rfl ?_
    refine v_dup O dX3_add_89 rfl ?_
    refine v_get O dX3_add_90 fo_X3_42 sh_13 rfl rfl ?_
    refine v_iconst O dX3_add_93 kc_1 ?_
    refine v_iadd O dX3_add_94 ?_
    refine v_putI O dX3_add_95 fo_X3_42 fp_3_10 sh_13 rfl rfl rfl ?_
    exact v_vret O r dX3_add_98 ⟨rfl, (h.1 g1)⟩
  · refine v_iload_n O dX3_add_46 rfl 2 rfl ?_
    refine v_iconst O dX3_add_47 kc_4 ?_
    refine v_icmp_ge (tgt := 88) O dX3_add_48 (by decide) (fun g2 => ?_) (fun g2 => ?_)
    · refine v_aload_n O dX3_add_88 rfl 0 rfl ?_
      refine v_dup O dX3_add_89 rfl ?_
      refine v_get O dX3_add_90 fo_X3_42 sh_13 rfl rfl ?_
      refine v_iconst O dX3_add_93 kc_1 ?_
      refine v_iadd O dX3_add_94 ?_
      refine v_putI O dX3_add_95 fo_X3_42 fp_3_10 sh_13 rfl rfl rfl ?_
      exact v_vret O r dX3_add_98 ⟨rfl, ((h.2 g1).1 g2)⟩
    · refine v_aload_n O dX3_add_51 rfl 0 rfl ?_
      refine v_get O dX3_add_52 fo_X3_46 sh_13 rfl rfl ?_
      refine v_bipush O dX3_add_55 kb_32 ?_
      refine v_icmp_ge (tgt := 88) O dX3_add_57 (by decide) (fun g3 => ?_) (fun g3 => ?_)
      · refine v_aload_n O dX3_add_88 rfl 0 rfl ?_
        refine v_dup O dX3_add_89 rfl ?_
        refine v_get O dX3_add_90 fo_X3_42 sh_13 rfl rfl ?_
        refine v_iconst O dX3_add_93 kc_1 ?_
        refine v_iadd O dX3_add_94 ?_
        refine v_putI O dX3_add_95 fo_X3_42 fp_3_10 sh_13 rfl rfl rfl ?_
        exact v_vret O r dX3_add_98 ⟨rfl, (((h.2 g1).2 g2).1 g3)⟩
      · refine v_aload_n O dX3_add_60 rfl 0 rfl ?_
        refine v_aload_n O dX3_add_61 rfl 1 rfl ?_
        refine v_get O dX3_add_62 fo_X3_71 sh_24 rfl rfl ?_
        refine v_iload_n O dX3_add_65 rfl 2 rfl ?_
        refine v_iald O dX3_add_66 sh_25 (((h.2 g1).2 g2).2 g3).1 ?_
        refine v_aload_n O dX3_add_67 rfl 1 rfl ?_
        refine v_get O dX3_add_68 fo_X3_74 sh_24 rfl rfl ?_
        refine v_iload_n O dX3_add_71 rfl 2 rfl ?_
        refine v_iald O dX3_add_72 sh_26 (((h.2 g1).2 g2).2 g3).2.1 ?_
        refine v_aload_n O dX3_add_73 rfl 1 rfl ?_
        refine v_get O dX3_add_74 fo_X3_77 sh_24 rfl rfl ?_
        refine v_iload_n O dX3_add_77 rfl 2 rfl ?_
        refine v_iald O dX3_add_78 sh_27 (((h.2 g1).2 g2).2 g3).2.2.1 ?_
        refine v_callV (rm' := { frames := 0, cells := 0, slots := 0, locals := 0 }) (As := [.int (X 25 a2.toNatClampNeg), .int (X 26 a2.toNatClampNeg), .int (X 27 a2.toNatClampNeg)]) (st := []) O dX3_add_79 ci_X3_addPlace ml_X3_80 mi_X3_addPlace sh_13 rfl ⟨rfl, rfl, (by decide), (by decide)⟩ rfl (Nat.le_of_ble_eq_true rfl) rfl (mX3_addPlace (((h.2 g1).2 g2).2 g3).2.2.2) (k_V (fun X5 Y6 h7 => ?_))
        obtain ⟨w8, hw9⟩ : ∃ y : Int32, y = a2 + 1 := ⟨_, rfl⟩
        refine v_iinc (v := w8) (j := 2) O dX3_add_82 rfl (by rw [hw9]; exact congrArg _ kc_1) (by decide) (lv' := [(2, .int w8), (0, .ref 13), (1, .ref 24)]) rfl ?_
        refine v_goto O dX3_add_85 (tgt := 38) (by decide) ?_
        exact v_loc [1, 2, 0] rfl (e38 w8 X5 Y6 (h7 w8 hw9))
set_option maxHeartbeats 4000000 in
set_option maxRecDepth 100000 in
theorem kX3_add_s {Γ : Cxt} {Q : XT → YT → Prop} (O : Ok Γ RX3 cX3_add 3 { frames := 1, cells := 0, slots := 0, locals := 24 }) (r : Ret Γ none (qV Q)) {I38 : Int32 → XT → YT → Prop} (e38 : ∀ (a2 : Int32) (X : XT) (Y : YT), I38 a2 X Y → V Γ 38 [(0, .ref 13), (1, .ref 24), (2, .int a2)] [] X Y) {X : XT} {Y : YT} (h : BX3_add_s I38 Q X Y) : V Γ 0 [(0, .ref 13), (1, .ref 24)] [] X Y := by
  refine v_aload_n O dX3_add_0 rfl 0 rfl ?_
  refine v_get O dX3_add_1 fo_X3_42 sh_13 rfl rfl ?_
  refine v_bipush O dX3_add_4 kb_8 ?_
  refine v_icmp_lt (tgt := 10) O dX3_add_6 (by decide) (fun g1 => ?_) (fun g1 => ?_)
  · refine v_aload_n O dX3_add_10 rfl 0 rfl ?_
    refine v_get O dX3_add_11 fo_X3_9 sh_13 rfl rfl ?_
    refine v_aload_n O dX3_add_14 rfl 0 rfl ?_
    refine v_get O dX3_add_15 fo_X3_42 sh_13 rfl rfl ?_
    refine v_aload_n O dX3_add_18 rfl 1 rfl ?_
    refine v_get O dX3_add_19 fo_X3_62 sh_24 rfl rfl ?_
    refine v_iast O dX3_add_22 sh_14 (h.1 g1).1 ?_
    refine v_aload_n O dX3_add_23 rfl 0 rfl ?_
    refine v_get O dX3_add_24 fo_X3_15 sh_13 rfl rfl ?_
    refine v_aload_n O dX3_add_27 rfl 0 rfl ?_
    refine v_get O dX3_add_28 fo_X3_42 sh_13 rfl rfl ?_
    refine v_aload_n O dX3_add_31 rfl 1 rfl ?_
    refine v_get O dX3_add_32 fo_X3_67 sh_24 rfl rfl ?_
    refine v_iast O dX3_add_35 sh_15 (h.1 g1).2.1 ?_
    refine v_nmX (fun X2 hX3 => ?_)
    refine v_iconst O dX3_add_36 kc_0 ?_
    refine v_istore_n (lv' := [(2, .int 0), (0, .ref 13), (1, .ref 24)]) O dX3_add_37 rfl (by decide) rfl ?_
    exact v_loc [1, 2, 0] rfl (e38 0 X2 Y ((h.1 g1).2.2 X2 hX3))
  · exact v_vret O r dX3_add_9 ⟨rfl, (h.2 g1)⟩
set_option maxRecDepth 100000 in
theorem mX3_add {Γ : Cxt} {X : XT} {Y : YT} {Q : XT → YT → Prop} (h : PX3_add X Y Q) : MT Γ yX3_add (.code yX3_add cX3_add 3 none :: wl) { frames := 1, cells := 0, slots := 0, locals := 24 } [.ref 13, .ref 24] X Y (qV Q) :=
  mt_of (by decide) (Nat.le_of_ble_eq_true rfl) (fun Γ _ O r => kX3_add_s O r (fun _ _ _ g => g) (h (fun a2 X Y => V Γ 38 [(0, .ref 13), (1, .ref 24), (2, .int a2)] [] X Y) (fun _ _ _ g => kX3_add_38 O r (fun _ _ _ g => g) g)))
