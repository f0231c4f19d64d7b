theorem dX10_mayGive_0 : decode cX10_mayGive 0 = .ok (.aload_n 0, 1) := by decide +kernel
theorem dX10_mayGive_1 : decode cX10_mayGive 1 = .ok (.getfield 83, 3) := by decide +kernel
theorem dX10_mayGive_4 : decode cX10_mayGive 4 = .ok (.iload_n 1, 1) := by decide +kernel
theorem dX10_mayGive_5 : decode cX10_mayGive 5 = .ok (.iaload, 1) := by decide +kernel
theorem dX10_mayGive_6 : decode cX10_mayGive 6 = .ok (.istore_n 3, 1) := by decide +kernel
theorem dX10_mayGive_7 : decode cX10_mayGive 7 = .ok (.aload_n 0, 1) := by decide +kernel
theorem dX10_mayGive_8 : decode cX10_mayGive 8 = .ok (.getfield 52, 3) := by decide +kernel
theorem dX10_mayGive_11 : decode cX10_mayGive 11 = .ok (.iload_n 3, 1) := by decide +kernel
theorem dX10_mayGive_12 : decode cX10_mayGive 12 = .ok (.iaload, 1) := by decide +kernel
theorem dX10_mayGive_13 : decode cX10_mayGive 13 = .ok (.istore 4, 2) := by decide +kernel
theorem dX10_mayGive_15 : decode cX10_mayGive 15 = .ok (.aload_n 0, 1) := by decide +kernel
theorem dX10_mayGive_16 : decode cX10_mayGive 16 = .ok (.getfield 243, 3) := by decide +kernel
theorem dX10_mayGive_19 : decode cX10_mayGive 19 = .ok (.iload_n 2, 1) := by decide +kernel
theorem dX10_mayGive_20 : decode cX10_mayGive 20 = .ok (.ishr, 1) := by decide +kernel
theorem dX10_mayGive_21 : decode cX10_mayGive 21 = .ok (.iconst 1, 1) := by decide +kernel
theorem dX10_mayGive_22 : decode cX10_mayGive 22 = .ok (.iand, 1) := by decide +kernel
theorem dX10_mayGive_23 : decode cX10_mayGive 23 = .ok (.iconst 1, 1) := by decide +kernel
theorem dX10_mayGive_24 : decode cX10_mayGive 24 = .ok (.if_icmp .eq 39, 3) := by decide +kernel
theorem dX10_mayGive_27 : decode cX10_mayGive 27 = .ok (.iload 4, 2) := by decide +kernel
theorem dX10_mayGive_29 : decode cX10_mayGive 29 = .ok (.ifCond .lt 25, 3) := by decide +kernel
theorem dX10_mayGive_32 : decode cX10_mayGive 32 = .ok (.aload_n 0, 1) := by decide +kernel
theorem dX10_mayGive_33 : decode cX10_mayGive 33 = .ok (.getfield 80, 3) := by decide +kernel
theorem dX10_mayGive_36 : decode cX10_mayGive 36 = .ok (.iload 4, 2) := by decide +kernel
theorem dX10_mayGive_38 : decode cX10_mayGive 38 = .ok (.iaload, 1) := by decide +kernel
theorem dX10_mayGive_39 : decode cX10_mayGive 39 = .ok (.iconst (-1), 1) := by decide +kernel
theorem dX10_mayGive_40 : decode cX10_mayGive 40 = .ok (.if_icmp .eq 14, 3) := by decide +kernel
theorem dX10_mayGive_43 : decode cX10_mayGive 43 = .ok (.aload_n 0, 1) := by decide +kernel
theorem dX10_mayGive_44 : decode cX10_mayGive 44 = .ok (.getfield 80, 3) := by decide +kernel
theorem dX10_mayGive_47 : decode cX10_mayGive 47 = .ok (.iload 4, 2) := by decide +kernel
theorem dX10_mayGive_49 : decode cX10_mayGive 49 = .ok (.iaload, 1) := by decide +kernel
theorem dX10_mayGive_50 : decode cX10_mayGive 50 = .ok (.iload_n 2, 1) := by decide +kernel
theorem dX10_mayGive_51 : decode cX10_mayGive 51 = .ok (.if_icmp .ne 12, 3) := by decide +kernel
theorem dX10_mayGive_54 : decode cX10_mayGive 54 = .ok (.aload_n 0, 1) := by decide +kernel
theorem dX10_mayGive_55 : decode cX10_mayGive 55 = .ok (.iload_n 2, 1) := by decide +kernel
theorem dX10_mayGive_56 : decode cX10_mayGive 56 = .ok (.iload_n 3, 1) := by decide +kernel
theorem dX10_mayGive_57 : decode cX10_mayGive 57 = .ok (.invokevirtual 258, 3) := by decide +kernel
theorem dX10_mayGive_60 : decode cX10_mayGive 60 = .ok (.ifCond .ne 5, 3) := by decide +kernel
theorem dX10_mayGive_63 : decode cX10_mayGive 63 = .ok (.iconst 0, 1) := by decide +kernel
theorem dX10_mayGive_64 : decode cX10_mayGive 64 = .ok (.ireturn, 1) := by decide +kernel
theorem dX10_mayGive_65 : decode cX10_mayGive 65 = .ok (.aload_n 0, 1) := by decide +kernel
theorem dX10_mayGive_66 : decode cX10_mayGive 66 = .ok (.getfield 99, 3) := by decide +kernel
theorem dX10_mayGive_69 : decode cX10_mayGive 69 = .ok (.aload_n 0, 1) := by decide +kernel
theorem dX10_mayGive_70 : decode cX10_mayGive 70 = .ok (.getfield 43, 3) := by decide +kernel
theorem dX10_mayGive_73 : decode cX10_mayGive 73 = .ok (.iload_n 3, 1) := by decide +kernel
theorem dX10_mayGive_74 : decode cX10_mayGive 74 = .ok (.iaload, 1) := by decide +kernel
theorem dX10_mayGive_75 : decode cX10_mayGive 75 = .ok (.iaload, 1) := by decide +kernel
theorem dX10_mayGive_76 : decode cX10_mayGive 76 = .ok (.istore 5, 2) := by decide +kernel
theorem dX10_mayGive_78 : decode cX10_mayGive 78 = .ok (.iconst 0, 1) := by decide +kernel
theorem dX10_mayGive_79 : decode cX10_mayGive 79 = .ok (.istore 6, 2) := by decide +kernel
theorem dX10_mayGive_81 : decode cX10_mayGive 81 = .ok (.iload 6, 2) := by decide +kernel
theorem dX10_mayGive_83 : decode cX10_mayGive 83 = .ok (.iload_n 1, 1) := by decide +kernel
theorem dX10_mayGive_84 : decode cX10_mayGive 84 = .ok (.if_icmp .ge 48, 3) := by decide +kernel
theorem dX10_mayGive_87 : decode cX10_mayGive 87 = .ok (.iload 5, 2) := by decide +kernel
theorem dX10_mayGive_89 : decode cX10_mayGive 89 = .ok (.aload_n 0, 1) := by decide +kernel
theorem dX10_mayGive_90 : decode cX10_mayGive 90 = .ok (.getfield 43, 3) := by decide +kernel
theorem dX10_mayGive_93 : decode cX10_mayGive 93 = .ok (.aload_n 0, 1) := by decide +kernel
theorem dX10_mayGive_94 : decode cX10_mayGive 94 = .ok (.getfield 83, 3) := by decide +kernel
theorem dX10_mayGive_97 : decode cX10_mayGive 97 = .ok (.iload 6, 2) := by decide +kernel
theorem dX10_mayGive_99 : decode cX10_mayGive 99 = .ok (.iaload, 1) := by decide +kernel
theorem dX10_mayGive_100 : decode cX10_mayGive 100 = .ok (.iaload, 1) := by decide +kernel
theorem dX10_mayGive_101 : decode cX10_mayGive 101 = .ok (.aload_n 0, 1) := by decide +kernel
theorem dX10_mayGive_102 : decode cX10_mayGive 102 = .ok (.getfield 43, 3) := by decide +kernel
theorem dX10_mayGive_105 : decode cX10_mayGive 105 = .ok (.iload_n 3, 1) := by decide +kernel
theorem dX10_mayGive_106 : decode cX10_mayGive 106 = .ok (.iaload, 1) := by decide +kernel
theorem dX10_mayGive_107 : decode cX10_mayGive 107 = .ok (.if_icmp .ne 15, 3) := by decide +kernel
theorem dX10_mayGive_110 : decode cX10_mayGive 110 = .ok (.iconst 1, 1) := by decide +kernel
theorem dX10_mayGive_111 : decode cX10_mayGive 111 = .ok (.aload_n 0, 1) := by decide +kernel
theorem dX10_mayGive_112 : decode cX10_mayGive 112 = .ok (.getfield 86, 3) := by decide +kernel
theorem dX10_mayGive_115 : decode cX10_mayGive 115 = .ok (.iload 6, 2) := by decide +kernel
theorem dX10_mayGive_117 : decode cX10_mayGive 117 = .ok (.iaload, 1) := by decide +kernel
theorem dX10_mayGive_118 : decode cX10_mayGive 118 = .ok (.ishl, 1) := by decide +kernel
theorem dX10_mayGive_119 : decode cX10_mayGive 119 = .ok (.goto 4, 3) := by decide +kernel
theorem dX10_mayGive_122 : decode cX10_mayGive 122 = .ok (.iconst 0, 1) := by decide +kernel
theorem dX10_mayGive_123 : decode cX10_mayGive 123 = .ok (.ior, 1) := by decide +kernel
theorem dX10_mayGive_124 : decode cX10_mayGive 124 = .ok (.istore 5, 2) := by decide +kernel
theorem dX10_mayGive_126 : decode cX10_mayGive 126 = .ok (.iinc 6 1, 3) := by decide +kernel
theorem dX10_mayGive_129 : decode cX10_mayGive 129 = .ok (.goto (-48), 3) := by decide +kernel
theorem dX10_mayGive_132 : decode cX10_mayGive 132 = .ok (.iload 5, 2) := by decide +kernel
theorem dX10_mayGive_134 : decode cX10_mayGive 134 = .ok (.iload_n 2, 1) := by decide +kernel
theorem dX10_mayGive_135 : decode cX10_mayGive 135 = .ok (.ishr, 1) := by decide +kernel
theorem dX10_mayGive_136 : decode cX10_mayGive 136 = .ok (.iconst 1, 1) := by decide +kernel
theorem dX10_mayGive_137 : decode cX10_mayGive 137 = .ok (.iand, 1) := by decide +kernel
theorem dX10_mayGive_138 : decode cX10_mayGive 138 = .ok (.ifCond .ne 28, 3) := by decide +kernel
theorem dX10_mayGive_141 : decode cX10_mayGive 141 = .ok (.iload 5, 2) := by decide +kernel
theorem dX10_mayGive_143 : decode cX10_mayGive 143 = .ok (.aload_n 0, 1) := by decide +kernel
theorem dX10_mayGive_144 : decode cX10_mayGive 144 = .ok (.getfield 31, 3) := by decide +kernel
theorem dX10_mayGive_147 : decode cX10_mayGive 147 = .ok (.iload_n 2, 1) := by decide +kernel
theorem dX10_mayGive_148 : decode cX10_mayGive 148 = .ok (.iaload, 1) := by decide +kernel
theorem dX10_mayGive_149 : decode cX10_mayGive 149 = .ok (.iand, 1) := by decide +kernel
theorem dX10_mayGive_150 : decode cX10_mayGive 150 = .ok (.ifCond .ne 16, 3) := by decide +kernel
theorem dX10_mayGive_153 : decode cX10_mayGive 153 = .ok (.aload_n 0, 1) := by decide +kernel
theorem dX10_mayGive_154 : decode cX10_mayGive 154 = .ok (.iload_n 1, 1) := by decide +kernel
theorem dX10_mayGive_155 : decode cX10_mayGive 155 = .ok (.iload_n 2, 1) := by decide +kernel
theorem dX10_mayGive_156 : decode cX10_mayGive 156 = .ok (.invokevirtual 262, 3) := by decide +kernel
theorem dX10_mayGive_159 : decode cX10_mayGive 159 = .ok (.ifCond .eq 7, 3) := by decide +kernel
theorem dX10_mayGive_162 : decode cX10_mayGive 162 = .ok (.iconst 1, 1) := by decide +kernel
theorem dX10_mayGive_163 : decode cX10_mayGive 163 = .ok (.goto 4, 3) := by decide +kernel
theorem dX10_mayGive_166 : decode cX10_mayGive 166 = .ok (.iconst 0, 1) := by decide +kernel
theorem dX10_mayGive_167 : decode cX10_mayGive 167 = .ok (.ireturn, 1) := by decide +kernel
def BX10_mayGive_54 (I54 : Int32 → Int32 → Int32 → XT → YT → Prop) (I81 : Int32 → Int32 → Int32 → Int32 → Int32 → XT → YT → Prop) (Q : Int32 → XT → YT → Prop) (a1 : Int32) (a2 : Int32) (a3 : Int32) (X : XT) (Y : YT) : Prop :=
  PX10_fitsAt a2 a3 X Y (fun r1 X2 Y3 => ((¬ r1 = 0 → vp_in a3 32 ∧ vp_in (X2 60 a3.toNatClampNeg) 8 ∧ ∀ w6 : Int32, w6 = (X2 77 (X2 60 a3.toNatClampNeg).toNatClampNeg) → I81 a1 a2 a3 w6 0 X2 Y3) ∧ (r1 = 0 → Q 0 X2 Y3)))
def BX10_mayGive_81 (I54 : Int32 → Int32 → Int32 → XT → YT → Prop) (I81 : Int32 → Int32 → Int32 → Int32 → Int32 → XT → YT → Prop) (Q : Int32 → XT → YT → Prop) (a1 : Int32) (a2 : Int32) (a3 : Int32) (a5 : Int32) (a6 : Int32) (X : XT) (Y : YT) : Prop :=
  ((a1 ≤ a6 → ((¬ ((a5 >>> (a2 &&& 31)) &&& 1) = 0 → Q 0 X Y) ∧ (((a5 >>> (a2 &&& 31)) &&& 1) = 0 → vp_in a2 10 ∧ ((¬ (a5 &&& (X 56 a2.toNatClampNeg)) = 0 → Q 0 X Y) ∧ ((a5 &&& (X 56 a2.toNatClampNeg)) = 0 → PX10_twinsAgree a1 a2 X Y (fun r4 X5 Y6 => ((r4 = 0 → Q 0 X5 Y6) ∧ (¬ r4 = 0 → Q 1 X5 Y6)))))))) ∧ (¬ a1 ≤ a6 → vp_in a6 20 ∧ vp_in (X 72 a6.toNatClampNeg) 32 ∧ vp_in a3 32 ∧ ((¬ (X 60 (X 72 a6.toNatClampNeg).toNatClampNeg) = (X 60 a3.toNatClampNeg) → ∀ w10 : Int32, w10 = (a5 ||| 0) → ∀ w12 : Int32, w12 = a6 + 1 → I81 a1 a2 a3 w10 w12 X Y) ∧ ((X 60 (X 72 a6.toNatClampNeg).toNatClampNeg) = (X 60 a3.toNatClampNeg) → vp_in a6 20 ∧ ∀ w14 : Int32, w14 = (a5 ||| (1 <<< ((X 73 a6.toNatClampNeg) &&& 31))) → ∀ w16 : Int32, w16 = a6 + 1 → I81 a1 a2 a3 w14 w16 X Y))))
def BX10_mayGive_s (I54 : Int32 → Int32 → Int32 → XT → YT → Prop) (I81 : Int32 → Int32 → Int32 → Int32 → Int32 → XT → YT → Prop) (Q : Int32 → XT → YT → Prop) (p0 : Int32) (p1 : Int32) (X : XT) (Y : YT) : Prop :=
  vp_in p0 20 ∧ ∀ w1 : Int32, w1 = (X 72 p0.toNatClampNeg) → vp_in w1 32 ∧ ∀ w3 : Int32, w3 = (X 63 w1.toNatClampNeg) → (((((X 48 39) >>> (p1 &&& 31)) &&& 1) = 1 → Q 0 X Y) ∧ (¬ (((X 48 39) >>> (p1 &&& 31)) &&& 1) = 1 → ((w3 < 0 → I54 p0 p1 w1 X Y) ∧ (¬ w3 < 0 → vp_in w3 10 ∧ (((X 71 w3.toNatClampNeg) = (-1) → I54 p0 p1 w1 X Y) ∧ (¬ (X 71 w3.toNatClampNeg) = (-1) → vp_in w3 10 ∧ ((¬ (X 71 w3.toNatClampNeg) = p1 → Q 0 X Y) ∧ ((X 71 w3.toNatClampNeg) = p1 → I54 p0 p1 w1 X Y))))))))
def PX10_mayGive (p0 : Int32) (p1 : Int32) (X : XT) (Y : YT) (Q : Int32 → XT → YT → Prop) : Prop := ∀ (I54 : Int32 → Int32 → Int32 → XT → YT → Prop) (I81 : Int32 → Int32 → Int32 → Int32 → Int32 → XT → YT → Prop), (∀ (a1 : Int32) (a2 : Int32) (a3 : Int32) (X : XT) (Y : YT), BX10_mayGive_54 I54 I81 Q a1 a2 a3 X Y → I54 a1 a2 a3 X Y) → (∀ (a1 : Int32) (a2 : Int32) (a3 : Int32) (a5 : Int32) (a6 : Int32) (X : XT) (Y : YT), BX10_mayGive_81 I54 I81 Q a1 a2 a3 a5 a6 X Y → I81 a1 a2 a3 a5 a6 X Y) → BX10_mayGive_s I54 I81 Q p0 p1 X Y
set_option maxHeartbeats 4000000 in
set_option maxRecDepth 100000 in
theorem kX10_mayGive_54 {Γ : Cxt} {Q : Int32 → XT → YT → Prop} (O : Ok Γ RX10 cX10_mayGive 7 { frames := 3, cells := 0, slots := 0, locals := 68 }) (r : Ret Γ (some .boolean) (qI Q)) {I54 : Int32 → Int32 → Int32 → XT → YT → Prop} {I81 : Int32 → Int32 → Int32 → Int32 → Int32 → XT → YT → Prop} (e54 : ∀ (a1 : Int32) (a2 : Int32) (a3 : Int32) (X : XT) (Y : YT), I54 a1 a2 a3 X Y → V Γ 54 [(0, .ref 48), (1, .int a1), (2, .int a2), (3, .int a3)] [] X Y) (e81 : ∀ (a1 : Int32) (a2 : Int32) (a3 : Int32) (a5 : Int32) (a6 : Int32) (X : XT) (Y : YT), I81 a1 a2 a3 a5 a6 X Y → V Γ 81 [(0, .ref 48), (1, .int a1), (2, .int a2), (3, .int a3), (5, .int a5), (6, .int a6)] [] X Y) {a1 : Int32} {a2 : Int32} {a3 : Int32} {X : XT} {Y : YT} (h : BX10_mayGive_54 I54 I81 Q a1 a2 a3 X Y) : V Γ 54 [(0, .ref 48), (1, .int a1), (2, .int a2), (3, .int a3)] [] X Y := by
  refine v_aload_n O dX10_mayGive_54 rfl 0 rfl ?_
  refine v_iload_n O dX10_mayGive_55 rfl 2 rfl ?_
  refine v_iload_n O dX10_mayGive_56 rfl 3 rfl ?_
  refine v_callV (rm' := { frames := 2, cells := 0, slots := 0, locals := 45 }) (As := [.int a2, .int a3]) (st := []) O dX10_mayGive_57 ci_X10_fitsAt ml_X10_258 mi_X10_fitsAt sh_48 rfl ⟨rfl, rfl, (by decide), (by decide)⟩ rfl (Nat.le_of_ble_eq_true rfl) rfl (mX10_fitsAt h) (k_I (fun r1 X2 Y3 h4 => ?_))
  refine v_if_ne (tgt := 65) O dX10_mayGive_60 (by decide) (fun g5 => ?_) (fun g5 => ?_)
  · refine v_aload_n O dX10_mayGive_65 rfl 0 rfl ?_
    refine v_get O dX10_mayGive_66 fo_X10_99 sh_48 rfl rfl ?_
    refine v_aload_n O dX10_mayGive_69 rfl 0 rfl ?_
    refine v_get O dX10_mayGive_70 fo_X10_43 sh_48 rfl rfl ?_
    refine v_iload_n O dX10_mayGive_73 rfl 3 rfl ?_
    refine v_iald O dX10_mayGive_74 sh_60 (h4.1 g5).1 ?_
    refine v_iald O dX10_mayGive_75 sh_77 (h4.1 g5).2.1 ?_
    refine v_topi (fun w6 hw7 => ?_)
    refine v_istore (lv' := [(5, .int w6), (0, .ref 48), (1, .int a1), (2, .int a2), (3, .int a3)]) O dX10_mayGive_76 (by decide) rfl ?_
    refine v_iconst O dX10_mayGive_78 kc_0 ?_
    refine v_istore (lv' := [(6, .int 0), (5, .int w6), (0, .ref 48), (1, .int a1), (2, .int a2), (3, .int a3)]) O dX10_mayGive_79 (by decide) rfl ?_
    exact v_loc [2, 3, 4, 5, 1, 0] rfl (e81 a1 a2 a3 w6 0 X2 Y3 ((h4.1 g5).2.2 w6 hw7))
  · refine v_iconst O dX10_mayGive_63 kc_0 ?_
    exact v_zret O r dX10_mayGive_64 (by decide) ⟨_, rfl, (h4.2 g5)⟩
set_option maxHeartbeats 4000000 in
set_option maxRecDepth 100000 in
theorem kX10_mayGive_81 {Γ : Cxt} {Q : Int32 → XT → YT → Prop} (O : Ok Γ RX10 cX10_mayGive 7 { frames := 3, cells := 0, slots := 0, locals := 68 }) (r : Ret Γ (some .boolean) (qI Q)) {I54 : Int32 → Int32 → Int32 → XT → YT → Prop} {I81 : Int32 → Int32 → Int32 → Int32 → Int32 → XT → YT → Prop} (e54 : ∀ (a1 : Int32) (a2 : Int32) (a3 : Int32) (X : XT) (Y : YT), I54 a1 a2 a3 X Y → V Γ 54 [(0, .ref 48), (1, .int a1), (2, .int a2), (3, .int a3)] [] X Y) (e81 : ∀ (a1 : Int32) (a2 : Int32) (a3 : Int32) (a5 : Int32) (a6 : Int32) (X : XT) (Y : YT), I81 a1 a2 a3 a5 a6 X Y → V Γ 81 [(0, .ref 48), (1, .int a1), (2, .int a2), (3, .int a3), (5, .int a5), (6, .int a6)] [] X Y) {a1 : Int32} {a2 : Int32} {a3 : Int32} {a5 : Int32} {a6 : Int32} {X : XT} {Y : YT} (h : BX10_mayGive_81 I54 I81 Q a1 a2 a3 a5 a6 X Y) : V Γ 81 [(0, .ref 48), (1, .int a1), (2, .int a2), (3, .int a3), (5, .int a5), (6, .int a6)] [] X Y := by
  refine v_iload O dX10_mayGive_81 5 rfl ?_
  refine v_iload_n O dX10_mayGive_83 rfl 1 rfl ?_
  refine v_icmp_ge (tgt := 132) O dX10_mayGive_84 (by decide) (fun g1 => ?_) (fun g1 => ?_)
  · refine v_iload O dX10_mayGive_132 4 rfl ?_
    refine v_iload_n O dX10_mayGive_134 rfl 2 rfl ?_
    refine v_ishr O dX10_mayGive_135 ?_
    refine v_iconst O dX10_mayGive_136 kc_1 ?_
    refine v_iand O dX10_mayGive_137 ?_
    refine v_if_ne (tgt := 166) O dX10_mayGive_138 (by decide) (fun g2 => ?_) (fun g2 => ?_)
    · refine v_iconst O dX10_mayGive_166 kc_0 ?_
      exact v_zret O r dX10_mayGive_167 (by decide) ⟨_, rfl, ((h.1 g1).1 g2)⟩
    · refine v_iload O dX10_mayGive_141 4 rfl ?_
      refine v_aload_n O dX10_mayGive_143 rfl 0 rfl ?_
      refine v_get O dX10_mayGive_144 fo_X10_31 sh_48 rfl rfl ?_
      refine v_iload_n O dX10_mayGive_147 rfl 2 rfl ?_
      refine v_iald O dX10_mayGive_148 sh_56 ((h.1 g1).2 g2).1 ?_
      refine v_iand O dX10_mayGive_149 ?_
      refine v_if_ne (tgt := 166) O dX10_mayGive_150 (by decide) (fun g3 => ?_) (fun g3 => ?_)
      · refine v_iconst O dX10_mayGive_166 kc_0 ?_
        exact v_zret O r dX10_mayGive_167 (by decide) ⟨_, rfl, (((h.1 g1).2 g2).2.1 g3)⟩
      · refine v_aload_n O dX10_mayGive_153 rfl 0 rfl ?_
        refine v_iload_n O dX10_mayGive_154 rfl 1 rfl ?_
        refine v_iload_n O dX10_mayGive_155 rfl 2 rfl ?_
        refine v_callV (rm' := { frames := 0, cells := 0, slots := 0, locals := 0 }) (As := [.int a1, .int a2]) (st := []) O dX10_mayGive_156 ci_X10_twinsAgree ml_X10_262 mi_X10_twinsAgree sh_48 rfl ⟨rfl, rfl, (by decide), (by decide)⟩ rfl (Nat.le_of_ble_eq_true rfl) rfl (mX10_twinsAgree (((h.1 g1).2 g2).2.2 g3)) (k_I (fun r4 X5 Y6 h7 => ?_))
        refine v_if_eq (tgt := 166) O dX10_mayGive_159 (by decide) (fun g8 => ?_) (fun g8 => ?_)
        · refine v_iconst O dX10_mayGive_166 kc_0 ?_
          exact v_zret O r dX10_mayGive_167 (by decide) ⟨_, rfl, (h7.1 g8)⟩
        · refine v_iconst O dX10_mayGive_162 kc_1 ?_
          refine v_goto O dX10_mayGive_163 (tgt := 167) (by decide) ?_
          exact v_zret O r dX10_mayGive_167 (by decide) ⟨_, rfl, (h7.2 g8)⟩
  · refine v_iload O dX10_mayGive_87 4 rfl ?_
    refine v_aload_n O dX10_mayGive_89 rfl 0 rfl ?_
    refine v_get O dX10_mayGive_90 fo_X10_43 sh_48 rfl rfl ?_
    refine v_aload_n O dX10_mayGive_93 rfl 0 rfl ?_
    refine v_get O dX10_mayGive_94 fo_X10_83 sh_48 rfl rfl ?_
    refine v_iload O dX10_mayGive_97 5 rfl ?_
    refine v_iald O dX10_mayGive_99 sh_72 (h.2 g1).1 ?_
    refine v_iald O dX10_mayGive_100 sh_60 (h.2 g1).2.1 ?_
    refine v_aload_n O dX10_mayGive_101 rfl 0 rfl ?_
    refine v_get O dX10_mayGive_102 fo_X10_43 sh_48 rfl rfl ?_
    refine v_iload_n O dX10_mayGive_105 rfl 3 rfl ?_
    refine v_iald O dX10_mayGive_106 sh_60 (h.2 g1).2.2.1 ?_
    refine v_icmp_ne (tgt := 122) O dX10_mayGive_107 (by decide) (fun g9 => ?_) (fun g9 => ?_)
    · refine v_iconst O dX10_mayGive_122 kc_0 ?_
      refine v_ior O dX10_mayGive_123 ?_
      refine v_topi (fun w10 hw11 => ?_)
      refine v_istore (lv' := [(5, .int w10), (0, .ref 48), (1, .int a1), (2, .int a2), (3, .int a3), (6, .int a6)]) O dX10_mayGive_124 (by decide) rfl ?_
      obtain ⟨w12, hw13⟩ : ∃ y : Int32, y = a6 + 1 := ⟨_, rfl⟩
      refine v_iinc (v := w12) (j := 5) O dX10_mayGive_126 rfl (by rw [hw13]; exact congrArg _ kc_1) (by decide) (lv' := [(6, .int w12), (5, .int w10), (0, .ref 48), (1, .int a1), (2, .int a2), (3, .int a3)]) rfl ?_
      refine v_goto O dX10_mayGive_129 (tgt := 81) (by decide) ?_
      exact v_loc [2, 3, 4, 5, 1, 0] rfl (e81 a1 a2 a3 w10 w12 X Y ((((h.2 g1).2.2.2.1 g9) w10 hw11) w12 hw13))
    · refine v_iconst O dX10_mayGive_110 kc_1 ?_
      refine v_aload_n O dX10_mayGive_111 rfl 0 rfl ?_
      refine v_get O dX10_mayGive_112 fo_X10_86 sh_48 rfl rfl ?_
      refine v_iload O dX10_mayGive_115 5 rfl ?_
      refine v_iald O dX10_mayGive_117 sh_73 ((h.2 g1).2.2.2.2 g9).1 ?_
      refine v_ishl O dX10_mayGive_118 ?_
      refine v_goto O dX10_mayGive_119 (tgt := 123) (by decide) ?_
      refine v_ior O dX10_mayGive_123 ?_
      refine v_topi (fun w14 hw15 => ?_)
      refine v_istore (lv' := [(5, .int w14), (0, .ref 48), (1, .int a1), (2, .int a2), (3, .int a3), (6, .int a6)]) O dX10_mayGive_124 (by decide) rfl ?_
      obtain ⟨w16, hw17⟩ : ∃ y : Int32, y = a6 + 1 := ⟨_, rfl⟩
      refine v_iinc (v := w16) (j := 5) O dX10_mayGive_126 rfl (by rw [hw17]; exact congrArg _ kc_1) (by decide) (lv' := [(6, .int w16), (5, .int w14), (0, .ref 48), (1, .int a1), (2, .int a2), (3, .int a3)]) rfl ?_
      refine v_goto O dX10_mayGive_129 (tgt := 81) (by decide) ?_
      exact v_loc [2, 3, 4, 5, 1, 0] rfl (e81 a1 a2 a3 w14 w16 X Y ((((h.2 g1).2.2.2.2 g9).2 w14 hw15) w16 hw17))
set_option maxHeartbeats 4000000 in
set_option maxRecDepth 100000 in
theorem kX10_mayGive_s {Γ : Cxt} {Q : Int32 → XT → YT → Prop} (O : Ok Γ RX10 cX10_mayGive 7 { frames := 3, cells := 0, slots := 0, locals := 68 }) (r : Ret Γ (some .boolean) (qI Q)) {I54 : Int32 → Int32 → Int32 → XT → YT → Prop} {I81 : Int32 → Int32 → Int32 → Int32 → Int32 → XT → YT → Prop} (e54 : ∀ (a1 : Int32) (a2 : Int32) (a3 : Int32) (X : XT) (Y : YT), I54 a1 a2 a3 X Y → V Γ 54 [(0, .ref 48), (1, .int a1), (2, .int a2), (3, .int a3)] [] X Y) (e81 : ∀ (a1 : Int32) (a2 : Int32) (a3 : Int32) (a5 : Int32) (a6 : Int32) (X : XT) (Y : YT), I81 a1 a2 a3 a5 a6 X Y → V Γ 81 [(0, .ref 48), (1, .int a1), (2, .int a2), (3, .int a3), (5, .int a5), (6, .int a6)] [] X Y) {p0 : Int32} {p1 : Int32} {X : XT} {Y : YT} (h : BX10_mayGive_s I54 I81 Q p0 p1 X Y) : V Γ 0 [(0, .ref 48), (1, .int p0), (2, .int p1)] [] X Y := by
  refine v_aload_n O dX10_mayGive_0 rfl 0 rfl ?_
  refine v_get O dX10_mayGive_1 fo_X10_83 sh_48 rfl rfl ?_
  refine v_iload_n O dX10_mayGive_4 rfl 1 rfl ?_
  refine v_iald O dX10_mayGive_5 sh_72 h.1 ?_
  refine v_topi (fun w1 hw2 => ?_)
  refine v_istore_n (lv' := [(3, .int w1), (0, .ref 48), (1, .int p0), (2, .int p1)]) O dX10_mayGive_6 rfl (by decide) rfl ?_
  refine v_aload_n O dX10_mayGive_7 rfl 1 rfl ?_
  refine v_get O dX10_mayGive_8 fo_X10_52 sh_48 rfl rfl ?_
  refine v_iload_n O dX10_mayGive_11 rfl 0 rfl ?_
  refine v_iald O dX10_mayGive_12 sh_63 (h.2 w1 hw2).1 ?_
  refine v_topi (fun w3 hw4 => ?_)
  refine v_istore (lv' := [(4, .int w3), (3, .int w1), (0, .ref 48), (1, .int p0), (2, .int p1)]) O dX10_mayGive_13 (by decide) rfl ?_
  refine v_aload_n O dX10_mayGive_15 rfl 2 rfl ?_
  refine v_get O dX10_mayGive_16 fo_X10_243 sh_48 rfl rfl ?_
  refine v_iload_n O dX10_mayGive_19 rfl 4 rfl ?_
  refine v_ishr O dX10_mayGive_20 ?_
  refine v_iconst O dX10_mayGive_21 kc_1 ?_
  refine v_iand O dX10_mayGive_22 ?_
  refine v_iconst O dX10_mayGive_23 kc_1 ?_
  refine v_icmp_eq (tgt := 63) O dX10_mayGive_24 (by decide) (fun g5 => ?_) (fun g5 => ?_)
  · refine v_iconst O dX10_mayGive_63 kc_0 ?_
    exact v_zret O r dX10_mayGive_64 (by decide) ⟨_, rfl, (((h.2 w1 hw2).2 w3 hw4).1 g5)⟩
  · refine v_iload O dX10_mayGive_27 0 rfl ?_
    refine v_if_lt (tgt := 54) O dX10_mayGive_29 (by decide) (fun g6 => ?_) (fun g6 => ?_)
    · exact v_loc [2, 3, 4, 1] rfl (e54 p0 p1 w1 X Y ((((h.2 w1 hw2).2 w3 hw4).2 g5).1 g6))
    · refine v_aload_n O dX10_mayGive_32 rfl 2 rfl ?_
      refine v_get O dX10_mayGive_33 fo_X10_80 sh_48 rfl rfl ?_
      refine v_iload O dX10_mayGive_36 0 rfl ?_
      refine v_iald O dX10_mayGive_38 sh_71 ((((h.2 w1 hw2).2 w3 hw4).2 g5).2 g6).1 ?_
      refine v_iconst O dX10_mayGive_39 kc_m1 ?_
      refine v_icmp_eq (tgt := 54) O dX10_mayGive_40 (by decide) (fun g7 => ?_) (fun g7 => ?_)
      · exact v_loc [2, 3, 4, 1] rfl (e54 p0 p1 w1 X Y (((((h.2 w1 hw2).2 w3 hw4).2 g5).2 g6).2.1 g7))
      · refine v_aload_n O dX10_mayGive_43 rfl 2 rfl ?_
        refine v_get O dX10_mayGive_44 fo_X10_80 sh_48 rfl rfl ?_
        refine v_iload O dX10_mayGive_47 0 rfl ?_
        refine v_iald O dX10_mayGive_49 sh_71 (((((h.2 w1 hw2).2 w3 hw4).2 g5).2 g6).2.2 g7).1 ?_
        refine v_iload_n O dX10_mayGive_50 rfl 4 rfl ?_
        refine v_icmp_ne (tgt := 63) O dX10_mayGive_51 (by decide) (fun g8 => ?_) (fun g8 => ?_)
        · refine v_iconst O dX10_mayGive_63 kc_0 ?_
          exact v_zret O r dX10_mayGive_64 (by decide) ⟨_, rfl, ((((((h.2 w1 hw2).2 w3 hw4).2 g5).2 g6).2.2 g7).2.1 g8)⟩
        · exact v_loc [2, 3, 4, 1] rfl (e54 p0 p1 w1 X Y ((((((h.2 w1 hw2).2 w3 hw4).2 g5).2 g6).2.2 g7).2.2 g8))
set_option maxRecDepth 100000 in
theorem mX10_mayGive {Γ : Cxt} {p0 : Int32} {p1 : Int32} {X : XT} {Y : YT} {Q : Int32 → XT → YT → Prop} (h : PX10_mayGive p0 p1 X Y Q) : MT Γ yX10_mayGive (.code yX10_mayGive cX10_mayGive 7 (some .boolean) :: wl) { frames := 3, cells := 0, slots := 0, locals := 68 } [.ref 48, .int p0, .int p1] X Y (qI Q) :=
  mt_of (by decide) (Nat.le_of_ble_eq_true rfl) (fun Γ _ O r => kX10_mayGive_s O r (fun _ _ _ _ _ g => g) (fun _ _ _ _ _ _ _ g => g) (h (fun a1 a2 a3 X Y => V Γ 54 [(0, .ref 48), (1, .int a1), (2, .int a2), (3, .int a3)] [] X Y) (fun a1 a2 a3 a5 a6 X Y => V Γ 81 [(0, .ref 48), (1, .int a1), (2, .int a2), (3, .int a3), (5, .int a5), (6, .int a6)] [] X Y) (fun _ _ _ _ _ g => kX10_mayGive_54 O r (fun _ _ _ _ _ g => g) (fun _ _ _ _ _ _ _ g => g) g) (fun _ _ _ _ _ _ _ g => kX10_mayGive_81 O r (fun _ _ _ _ _ g => g) (fun _ _ _ _ _ _ _ g => g) g)))
theorem dX10_takeReading_0 : decode cX10_takeReading 0 = .ok (.lconst 1, 1) := by decide +kernel
theorem dX10_takeReading_1 : decode cX10_takeReading 1 = .ok (.lstore_n 1, 1) := by decide +kernel
theorem dX10_takeReading_2 : decode cX10_takeReading 2 = .ok (.iconst 0, 1) := by decide +kernel
theorem dX10_takeReading_3 : decode cX10_takeReading 3 = .ok (.istore_n 3, 1) := by decide +kernel
theorem dX10_takeReading_4 : decode cX10_takeReading 4 = .ok (.iconst 0, 1) := by decide +kernel
theorem dX10_takeReading_5 : decode cX10_takeReading 5 = .ok (.istore 4, 2) := by decide +kernel
theorem dX10_takeReading_7 : decode cX10_takeReading 7 = .ok (.iload 4, 2) := by decide +kernel
theorem dX10_takeReading_9 : decode cX10_takeReading 9 = .ok (.aload_n 0, 1) := by decide +kernel
theorem dX10_takeReading_10 : decode cX10_takeReading 10 = .ok (.getfield 265, 3) := by decide +kernel
theorem dX10_takeReading_13 : decode cX10_takeReading 13 = .ok (.if_icmp .ge 37, 3) := by decide +kernel
theorem dX10_takeReading_16 : decode cX10_takeReading 16 = .ok (.lload_n 1, 1) := by decide +kernel
theorem dX10_takeReading_17 : decode cX10_takeReading 17 = .ok (.aload_n 0, 1) := by decide +kernel
theorem dX10_takeReading_18 : decode cX10_takeReading 18 = .ok (.getfield 28, 3) := by decide +kernel
theorem dX10_takeReading_21 : decode cX10_takeReading 21 = .ok (.aload_n 0, 1) := by decide +kernel
theorem dX10_takeReading_22 : decode cX10_takeReading 22 = .ok (.getfield 86, 3) := by decide +kernel
theorem dX10_takeReading_25 : decode cX10_takeReading 25 = .ok (.iload 4, 2) := by decide +kernel
theorem dX10_takeReading_27 : decode cX10_takeReading 27 = .ok (.iaload, 1) := by decide +kernel
theorem dX10_takeReading_28 : decode cX10_takeReading 28 = .ok (.iaload, 1) := by decide +kernel
theorem dX10_takeReading_29 : decode cX10_takeReading 29 = .ok (.i2l, 1) := by decide +kernel
theorem dX10_takeReading_30 : decode cX10_takeReading 30 = .ok (.lmul, 1) := by decide +kernel
theorem dX10_takeReading_31 : decode cX10_takeReading 31 = .ok (.lstore_n 1, 1) := by decide +kernel
theorem dX10_takeReading_32 : decode cX10_takeReading 32 = .ok (.iload_n 3, 1) := by decide +kernel
theorem dX10_takeReading_33 : decode cX10_takeReading 33 = .ok (.iconst 1, 1) := by decide +kernel
theorem dX10_takeReading_34 : decode cX10_takeReading 34 = .ok (.aload_n 0, 1) := by decide +kernel
theorem dX10_takeReading_35 : decode cX10_takeReading 35 = .ok (.getfield 86, 3) := by decide +kernel
theorem dX10_takeReading_38 : decode cX10_takeReading 38 = .ok (.iload 4, 2) := by decide +kernel
theorem dX10_takeReading_40 : decode cX10_takeReading 40 = .ok (.iaload, 1) := by decide +kernel
theorem dX10_takeReading_41 : decode cX10_takeReading 41 = .ok (.ishl, 1) := by decide +kernel
theorem dX10_takeReading_42 : decode cX10_takeReading 42 = .ok (.ior, 1) := by decide +kernel
theorem dX10_takeReading_43 : decode cX10_takeReading 43 = .ok (.istore_n 3, 1) := by decide +kernel
theorem dX10_takeReading_44 : decode cX10_takeReading 44 = .ok (.iinc 4 1, 3) := by decide +kernel
theorem dX10_takeReading_47 : decode cX10_takeReading 47 = .ok (.goto (-40), 3) := by decide +kernel
theorem dX10_takeReading_50 : decode cX10_takeReading 50 = .ok (.iconst 0, 1) := by decide +kernel
theorem dX10_takeReading_51 : decode cX10_takeReading 51 = .ok (.istore 4, 2) := by decide +kernel
theorem dX10_takeReading_53 : decode cX10_takeReading 53 = .ok (.iload 4, 2) := by decide +kernel
theorem dX10_takeReading_55 : decode cX10_takeReading 55 = .ok (.aload_n 0, 1) := by decide +kernel
theorem dX10_takeReading_56 : decode cX10_takeReading 56 = .ok (.getfield 265, 3) := by decide +kernel
theorem dX10_takeReading_59 : decode cX10_takeReading 59 = .ok (.if_icmp .ge 50, 3) := by decide +kernel
theorem dX10_takeReading_62 : decode cX10_takeReading 62 = .ok (.aload_n 0, 1) := by decide +kernel
theorem dX10_takeReading_63 : decode cX10_takeReading 63 = .ok (.getfield 92, 3) := by decide +kernel
theorem dX10_takeReading_66 : decode cX10_takeReading 66 = .ok (.iload 4, 2) := by decide +kernel
theorem dX10_takeReading_68 : decode cX10_takeReading 68 = .ok (.dup2, 1) := by decide +kernel
theorem dX10_takeReading_69 : decode cX10_takeReading 69 = .ok (.iaload, 1) := by decide +kernel
theorem dX10_takeReading_70 : decode cX10_takeReading 70 = .ok (.iconst 1, 1) := by decide +kernel
theorem dX10_takeReading_71 : decode cX10_takeReading 71 = .ok (.aload_n 0, 1) := by decide +kernel
theorem dX10_takeReading_72 : decode cX10_takeReading 72 = .ok (.getfield 86, 3) := by decide +kernel
theorem dX10_takeReading_75 : decode cX10_takeReading 75 = .ok (.iload 4, 2) := by decide +kernel
theorem dX10_takeReading_77 : decode cX10_takeReading 77 = .ok (.iaload, 1) := by decide +kernel
theorem dX10_takeReading_78 : decode cX10_takeReading 78 = .ok (.ishl, 1) := by decide +kernel
theorem dX10_takeReading_79 : decode cX10_takeReading 79 = .ok (.ior, 1) := by decide +kernel
theorem dX10_takeReading_80 : decode cX10_takeReading 80 = .ok (.iastore, 1) := by decide +kernel
theorem dX10_takeReading_81 : decode cX10_takeReading 81 = .ok (.aload_n 0, 1) := by decide +kernel
theorem dX10_takeReading_82 : decode cX10_takeReading 82 = .ok (.getfield 95, 3) := by decide +kernel
theorem dX10_takeReading_85 : decode cX10_takeReading 85 = .ok (.bipush 10, 2) := by decide +kernel
theorem dX10_takeReading_87 : decode cX10_takeReading 87 = .ok (.iload 4, 2) := by decide +kernel
theorem dX10_takeReading_89 : decode cX10_takeReading 89 = .ok (.imul, 1) := by decide +kernel
theorem dX10_takeReading_90 : decode cX10_takeReading 90 = .ok (.aload_n 0, 1) := by decide +kernel
theorem dX10_takeReading_91 : decode cX10_takeReading 91 = .ok (.getfield 86, 3) := by decide +kernel
theorem dX10_takeReading_94 : decode cX10_takeReading 94 = .ok (.iload 4, 2) := by decide +kernel
theorem dX10_takeReading_96 : decode cX10_takeReading 96 = .ok (.iaload, 1) := by decide +kernel
theorem dX10_takeReading_97 : decode cX10_takeReading 97 = .ok (.iadd, 1) := by decide +kernel
theorem dX10_takeReading_98 : decode cX10_takeReading 98 = .ok (.dup2, 1) := by decide +kernel
theorem dX10_takeReading_99 : decode cX10_takeReading 99 = .ok (.laload, 1) := by decide +kernel
theorem dX10_takeReading_100 : decode cX10_takeReading 100 = .ok (.lload_n 1, 1) := by decide +kernel
theorem dX10_takeReading_101 : decode cX10_takeReading 101 = .ok (.ladd, 1) := by decide +kernel
theorem dX10_takeReading_102 : decode cX10_takeReading 102 = .ok (.lastore, 1) := by decide +kernel
theorem dX10_takeReading_103 : decode cX10_takeReading 103 = .ok (.iinc 4 1, 3) := by decide +kernel
theorem dX10_takeReading_106 : decode cX10_takeReading 106 = .ok (.goto (-53), 3) := by decide +kernel
theorem dX10_takeReading_109 : decode cX10_takeReading 109 = .ok (.aload_n 0, 1) := by decide +kernel
theorem dX10_takeReading_110 : decode cX10_takeReading 110 = .ok (.dup, 1) := by decide +kernel
theorem dX10_takeReading_111 : decode cX10_takeReading 111 = .ok (.getfield 268, 3) := by decide +kernel
theorem dX10_takeReading_114 : decode cX10_takeReading 114 = .ok (.lload_n 1, 1) := by decide +kernel
theorem dX10_takeReading_115 : decode cX10_takeReading 115 = .ok (.ladd, 1) := by decide +kernel
theorem dX10_takeReading_116 : decode cX10_takeReading 116 = .ok (.putfield 268, 3) := by decide +kernel
theorem dX10_takeReading_119 : decode cX10_takeReading 119 = .ok (.aload_n 0, 1) := by decide +kernel
theorem dX10_takeReading_120 : decode cX10_takeReading 120 = .ok (.dup, 1) := by decide +kernel
theorem dX10_takeReading_121 : decode cX10_takeReading 121 = .ok (.getfield 272, 3) := by decide +kernel
theorem dX10_takeReading_124 : decode cX10_takeReading 124 = .ok (.iload_n 3, 1) := by decide +kernel
theorem dX10_takeReading_125 : decode cX10_takeReading 125 = .ok (.iand, 1) := by decide +kernel
theorem dX10_takeReading_126 : decode cX10_takeReading 126 = .ok (.putfield 272, 3) := by decide +kernel
theorem dX10_takeReading_129 : decode cX10_takeReading 129 = .ok (.aload_n 0, 1) := by decide +kernel
theorem dX10_takeReading_130 : decode cX10_takeReading 130 = .ok (.dup, 1) := by decide +kernel
theorem dX10_takeReading_131 : decode cX10_takeReading 131 = .ok (.getfield 275, 3) := by decide +kernel
theorem dX10_takeReading_134 : decode cX10_takeReading 134 = .ok (.iload_n 3, 1) := by decide +kernel
theorem dX10_takeReading_135 : decode cX10_takeReading 135 = .ok (.ior, 1) := by decide +kernel
theorem dX10_takeReading_136 : decode cX10_takeReading 136 = .ok (.putfield 275, 3) := by decide +kernel
theorem dX10_takeReading_139 : decode cX10_takeReading 139 = .ok (.aload_n 0, 1) := by decide +kernel
theorem dX10_takeReading_140 : decode cX10_takeReading 140 = .ok (.getfield 278, 3) := by decide +kernel
theorem dX10_takeReading_143 : decode cX10_takeReading 143 = .ok (.aload_n 0, 1) := by decide +kernel
theorem dX10_takeReading_144 : decode cX10_takeReading 144 = .ok (.getfield 249, 3) := by decide +kernel
theorem dX10_takeReading_147 : decode cX10_takeReading 147 = .ok (.if_icmp .ne 58, 3) := by decide +kernel
theorem dX10_takeReading_150 : decode cX10_takeReading 150 = .ok (.iconst 0, 1) := by decide +kernel
theorem dX10_takeReading_151 : decode cX10_takeReading 151 = .ok (.istore 4, 2) := by decide +kernel
theorem dX10_takeReading_153 : decode cX10_takeReading 153 = .ok (.iload 4, 2) := by decide +kernel
theorem dX10_takeReading_155 : decode cX10_takeReading 155 = .ok (.aload_n 0, 1) := by decide +kernel
theorem dX10_takeReading_156 : decode cX10_takeReading 156 = .ok (.getfield 265, 3) := by decide +kernel
theorem dX10_takeReading_159 : decode cX10_takeReading 159 = .ok (.if_icmp .ge 46, 3) := by decide +kernel
theorem dX10_takeReading_162 : decode cX10_takeReading 162 = .ok (.aload_n 0, 1) := by decide +kernel
theorem dX10_takeReading_163 : decode cX10_takeReading 163 = .ok (.aload_n 0, 1) := by decide +kernel
theorem dX10_takeReading_164 : decode cX10_takeReading 164 = .ok (.getfield 52, 3) := by decide +kernel
theorem dX10_takeReading_167 : decode cX10_takeReading 167 = .ok (.aload_n 0, 1) := by decide +kernel
theorem dX10_takeReading_168 : decode cX10_takeReading 168 = .ok (.getfield 83, 3) := by decide +kernel
theorem dX10_takeReading_171 : decode cX10_takeReading 171 = .ok (.iload 4, 2) := by decide +kernel
theorem dX10_takeReading_173 : decode cX10_takeReading 173 = .ok (.iaload, 1) := by decide +kernel
theorem dX10_takeReading_174 : decode cX10_takeReading 174 = .ok (.iaload, 1) := by decide +kernel
theorem dX10_takeReading_175 : decode cX10_takeReading 175 = .ok (.aload_n 0, 1) := by decide +kernel
theorem dX10_takeReading_176 : decode cX10_takeReading 176 = .ok (.getfield 252, 3) := by decide +kernel
theorem dX10_takeReading_179 : decode cX10_takeReading 179 = .ok (.if_icmp .ne 13, 3) := by decide +kernel
theorem dX10_takeReading_182 : decode cX10_takeReading 182 = .ok (.aload_n 0, 1) := by decide +kernel
theorem dX10_takeReading_183 : decode cX10_takeReading 183 = .ok (.getfield 86, 3) := by decide +kernel
theorem dX10_takeReading_186 : decode cX10_takeReading 186 = .ok (.iload 4, 2) := by decide +kernel
theorem dX10_takeReading_188 : decode cX10_takeReading 188 = .ok (.iaload, 1) := by decide +kernel
theorem dX10_takeReading_189 : decode cX10_takeReading 189 = .ok (.goto 7, 3) := by decide +kernel
theorem dX10_takeReading_192 : decode cX10_takeReading 192 = .ok (.aload_n 0, 1) := by decide +kernel
theorem dX10_takeReading_193 : decode cX10_takeReading 193 = .ok (.getfield 281, 3) := by decide +kernel
theorem dX10_takeReading_196 : decode cX10_takeReading 196 = .ok (.putfield 281, 3) := by decide +kernel
theorem dX10_takeReading_199 : decode cX10_takeReading 199 = .ok (.iinc 4 1, 3) := by decide +kernel
theorem dX10_takeReading_202 : decode cX10_takeReading 202 = .ok (.goto (-49), 3) := by decide +kernel
theorem dX10_takeReading_205 : decode cX10_takeReading 205 = .ok (.aload_n 0, 1) := by decide +kernel
theorem dX10_takeReading_206 : decode cX10_takeReading 206 = .ok (.dup, 1) := by decide +kernel
theorem dX10_takeReading_207 : decode cX10_takeReading 207 = .ok (.getfield 278, 3) := by decide +kernel
theorem dX10_takeReading_210 : decode cX10_takeReading 210 = .ok (.iconst 1, 1) := by decide +kernel
theorem dX10_takeReading_211 : decode cX10_takeReading 211 = .ok (.iadd, 1) := by decide +kernel
theorem dX10_takeReading_212 : decode cX10_takeReading 212 = .ok (.putfield 278, 3) := by decide +kernel
theorem dX10_takeReading_215 : decode cX10_takeReading 215 = .ok (.return_, 1) := by decide +kernel
def BX10_takeReading_7 (I7 : Int64 → Int32 → Int32 → XT → YT → Prop) (I53 : Int64 → Int32 → Int32 → XT → YT → Prop) (I153 : Int32 → XT → YT → Prop) (Q : XT → YT → Prop) (a1 : Int64) (a3 : Int32) (a4 : Int32) (X : XT) (Y : YT) : Prop :=
  (((X 48 43) ≤ a4 → I53 a1 a3 0 X Y) ∧ (¬ (X 48 43) ≤ a4 → vp_in a4 20 ∧ vp_in (X 73 a4.toNatClampNeg) 10 ∧ ∀ w2 : Int64, w2 = (a1 * ((X 55 (X 73 a4.toNatClampNeg).toNatClampNeg).toInt64)) → vp_in a4 20 ∧ ∀ w4 : Int32, w4 = (a3 ||| (1 <<< ((X 73 a4.toNatClampNeg) &&& 31))) → ∀ w6 : Int32, w6 = a4 + 1 → I7 w2 w4 w6 X Y))
def BX10_takeReading_53 (I7 : Int64 → Int32 → Int32 → XT → YT → Prop) (I53 : Int64 → Int32 → Int32 → XT → YT → Prop) (I153 : Int32 → XT → YT → Prop) (Q : XT → YT → Prop) (a1 : Int64) (a3 : Int32) (a4 : Int32) (X : XT) (Y : YT) : Prop :=
  (((X 48 43) ≤ a4 → ∀ X2 : XT, X2 = sX (sX X 48 51 ((X 48 51) &&& a3)) 48 52 (((sX X 48 51 ((X 48 51) &&& a3)) 48 52) ||| a3) → ((¬ (X2 48 47) = (X2 48 53) → Q (sX X2 48 47 ((X2 48 47) + 1)) (sY Y 48 48 ((Y 48 48) + a1))) ∧ ((X2 48 47) = (X2 48 53) → I153 0 X2 (sY Y 48 48 ((Y 48 48) + a1))))) ∧ (¬ (X 48 43) ≤ a4 → vp_in a4 20 ∧ vp_in a4 20 ∧ vp_in a4 20 ∧ ∀ X5 : XT, X5 = sX X 75 a4.toNatClampNeg ((X 75 a4.toNatClampNeg) ||| (1 <<< ((X 73 a4.toNatClampNeg) &&& 31))) → vp_in a4 20 ∧ vp_in ((10 * a4) + (X5 73 a4.toNatClampNeg)) 200 ∧ vp_in ((10 * a4) + (X5 73 a4.toNatClampNeg)) 200 ∧ ∀ Y7 : YT, Y7 = sY Y 76 ((10 * a4) + (X5 73 a4.toNatClampNeg)).toNatClampNeg ((Y 76 ((10 * a4) + (X5 73 a4.toNatClampNeg)).toNatClampNeg) + a1) → ∀ w9 : Int32, w9 = a4 + 1 → I53 a1 a3 w9 X5 Y7))
def BX10_takeReading_153 (I7 : Int64 → Int32 → Int32 → XT → YT → Prop) (I53 : Int64 → Int32 → Int32 → XT → YT → Prop) (I153 : Int32 → XT → YT → Prop) (Q : XT → YT → Prop) (a4 : Int32) (X : XT) (Y : YT) : Prop :=
  (((X 48 43) ≤ a4 → Q (sX X 48 47 ((X 48 47) + 1)) Y) ∧ (¬ (X 48 43) ≤ a4 → vp_in a4 20 ∧ vp_in (X 72 a4.toNatClampNeg) 32 ∧ ((¬ (X 63 (X 72 a4.toNatClampNeg).toNatClampNeg) = (X 48 54) → ∀ w3 : Int32, w3 = a4 + 1 → I153 w3 (sX X 48 55 (X 48 55)) Y) ∧ ((X 63 (X 72 a4.toNatClampNeg).toNatClampNeg) = (X 48 54) → vp_in a4 20 ∧ ∀ w5 : Int32, w5 = a4 + 1 → I153 w5 (sX X 48 55 (X 73 a4.toNatClampNeg)) Y))))
def BX10_takeReading_s (I7 : Int64 → Int32 → Int32 → XT → YT → Prop) (I53 : Int64 → Int32 → Int32 → XT → YT → Prop) (I153 : Int32 → XT → YT → Prop) (Q : XT → YT → Prop) (X : XT) (Y : YT) : Prop :=
  I7 (1 : Int64) 0 0 X Y
def PX10_takeReading (X : XT) (Y : YT) (Q : XT → YT → Prop) : Prop := ∀ (I7 : Int64 → Int32 → Int32 → XT → YT → Prop) (I53 : Int64 → Int32 → Int32 → XT → YT → Prop) (I153 : Int32 → XT → YT → Prop), (∀ (a1 : Int64) (a3 : Int32) (a4 : Int32) (X : XT) (Y : YT), BX10_takeReading_7 I7 I53 I153 Q a1 a3 a4 X Y → I7 a1 a3 a4 X Y) → (∀ (a1 : Int64) (a3 : Int32) (a4 : Int32) (X : XT) (Y : YT), BX10_takeReading_53 I7 I53 I153 Q a1 a3 a4 X Y → I53 a1 a3 a4 X Y) → (∀ (a4 : Int32) (X : XT) (Y : YT), BX10_takeReading_153 I7 I53 I153 Q a4 X Y → I153 a4 X Y) → BX10_takeReading_s I7 I53 I153 Q X Y
set_option maxHeartbeats 4000000 in
set_option maxRecDepth 100000 in
theorem kX10_takeReading_7 {Γ : Cxt} {Q : XT → YT → Prop} (O : Ok Γ RX10 cX10_takeReading 5 { frames := 0, cells := 0, slots := 0, locals := 0 }) (r : Ret Γ none (qV Q)) {I7 : Int64 → Int32 → Int32 → XT → YT → Prop} {I53 : Int64 → Int32 → Int32 → XT → YT → Prop} {I153 : Int32 → XT → YT → Prop} (e7 : ∀ (a1 : Int64) (a3 : Int32) (a4 : Int32) (X : XT) (Y : YT), I7 a1 a3 a4 X Y → V Γ 7 [(0, .ref 48), (1, .long a1), (3, .int a3), (4, .int a4)] [] X Y) (e53 : ∀ (a1 : Int64) (a3 : Int32) (a4 : Int32) (X : XT) (Y : YT), I53 a1 a3 a4 X Y → V Γ 53 [(0, .ref 48), (1, .long a1), (3, .int a3), (4, .int a4)] [] X Y) (e153 : ∀ (a4 : Int32) (X : XT) (Y : YT), I153 a4 X Y → V Γ 153 [(0, .ref 48), (4, .int a4)] [] X Y) {a1 : Int64} {a3 : Int32} {a4 : Int32} {X : XT} {Y : YT} (h : BX10_takeReading_7 I7 I53 I153 Q a1 a3 a4 X Y) : V Γ 7 [(0, .ref 48), (1, .long a1), (3, .int a3), (4, .int a4)] [] X Y := by
  refine v_iload O dX10_takeReading_7 3 rfl ?_
  refine v_aload_n O dX10_takeReading_9 rfl 0 rfl ?_
  refine v_get O dX10_takeReading_10 fo_X10_265 sh_48 rfl rfl ?_
  refine v_icmp_ge (tgt := 50) O dX10_takeReading_13 (by decide) (fun g1 => ?_) (fun g1 => ?_)
  · refine v_iconst O dX10_takeReading_50 kc_0 ?_
    refine v_istore (lv' := [(4, .int 0), (0, .ref 48), (1, .long a1), (3, .int a3)]) O dX10_takeReading_51 (by decide) rfl ?_
    exact v_loc [1, 2, 3, 0] rfl (e53 a1 a3 0 X Y (h.1 g1))
  · refine v_lload_n O dX10_takeReading_16 rfl 1 rfl ?_
    refine v_aload_n O dX10_takeReading_17 rfl 0 rfl ?_
    refine v_get O dX10_takeReading_18 fo_X10_28 sh_48 rfl rfl ?_
    refine v_aload_n O dX10_takeReading_21 rfl 0 rfl ?_
    refine v_get O dX10_takeReading_22 fo_X10_86 sh_48 rfl rfl ?_
    refine v_iload O dX10_takeReading_25 3 rfl ?_
    refine v_iald O dX10_takeReading_27 sh_73 (h.2 g1).1 ?_
    refine v_iald O dX10_takeReading_28 sh_55 (h.2 g1).2.1 ?_
    refine v_i2l O dX10_takeReading_29 ?_
    refine v_lmul O dX10_takeReading_30 ?_
    refine v_topl (fun w2 hw3 => ?_)
    refine v_lstore_n (lv' := [(1, .long w2), (0, .ref 48), (3, .int a3), (4, .int a4)]) O dX10_takeReading_31 rfl (by decide) rfl ?_
    refine v_iload_n O dX10_takeReading_32 rfl 2 rfl ?_
    refine v_iconst O dX10_takeReading_33 kc_1 ?_
    refine v_aload_n O dX10_takeReading_34 rfl 1 rfl ?_
    refine v_get O dX10_takeReading_35 fo_X10_86 sh_48 rfl rfl ?_
    refine v_iload O dX10_takeReading_38 3 rfl ?_
    refine v_iald O dX10_takeReading_40 sh_73 ((h.2 g1).2.2 w2 hw3).1 ?_
    refine v_ishl O dX10_takeReading_41 ?_
    refine v_ior O dX10_takeReading_42 ?_
    refine v_topi (fun w4 hw5 => ?_)
    refine v_istore_n (lv' := [(3, .int w4), (1, .long w2), (0, .ref 48), (4, .int a4)]) O dX10_takeReading_43 rfl (by decide) rfl ?_
    obtain ⟨w6, hw7⟩ : ∃ y : Int32, y = a4 + 1 := ⟨_, rfl⟩
    refine v_iinc (v := w6) (j := 3) O dX10_takeReading_44 rfl (by rw [hw7]; exact congrArg _ kc_1) (by decide) (lv' := [(4, .int w6), (3, .int w4), (1, .long w2), (0, .ref 48)]) rfl ?_
    refine v_goto O dX10_takeReading_47 (tgt := 7) (by decide) ?_
    exact v_loc [3, 2, 1, 0] rfl (e7 w2 w4 w6 X Y ((((h.2 g1).2.2 w2 hw3).2 w4 hw5) w6 hw7))
set_option maxHeartbeats 4000000 in
set_option maxRecDepth 100000 in
theorem kX10_takeReading_53 {Γ : Cxt} {Q : XT → YT → Prop} (O : Ok Γ RX10 cX10_takeReading 5 { frames := 0, cells := 0, slots := 0, locals := 0 }) (r : Ret Γ none (qV Q)) {I7 : Int64 → Int32 → Int32 → XT → YT → Prop} {I53 : Int64 → Int32 → Int32 → XT → YT → Prop} {I153 : Int32 → XT → YT → Prop} (e7 : ∀ (a1 : Int64) (a3 : Int32) (a4 : Int32) (X : XT) (Y : YT), I7 a1 a3 a4 X Y → V Γ 7 [(0, .ref 48), (1, .long a1), (3, .int a3), (4, .int a4)] [] X Y) (e53 : ∀ (a1 : Int64) (a3 : Int32) (a4 : Int32) (X : XT) (Y : YT), I53 a1 a3 a4 X Y → V Γ 53 [(0, .ref 48), (1, .long a1), (3, .int a3), (4, .int a4)] [] X Y) (e153 : ∀ (a4 : Int32) (X : XT) (Y : YT), I153 a4 X Y → V Γ 153 [(0, .ref 48), (4, .int a4)] [] X Y) {a1 : Int64} {a3 : Int32} {a4 : Int32} {X : XT} {Y : YT} (h : BX10_takeReading_53 I7 I53 I153 Q a1 a3 a4 X Y) : V Γ 53 [(0, .ref 48), (1, .long a1), (3, .int a3), (4, .int a4)] [] X Y := by
  refine v_iload O dX10_takeReading_53 3 rfl ?_
  refine v_aload_n O dX10_takeReading_55 rfl 0 rfl ?_
  refine v_get O dX10_takeReading_56 fo_X10_265 sh_48 rfl rfl ?_
  refine v_icmp_ge (tgt := 109) O dX10_takeReading_59 (by decide) (fun g1 => ?_) (fun g1 => ?_)
  · refine v_aload_n O dX10_takeReading_109 rfl 0 rfl ?_
    refine v_dup O dX10_takeReading_110 rfl ?_
    refine v_get O dX10_takeReading_111 fo_X10_268 sh_48 rfl rfl ?_
    refine v_lload_n O dX10_takeReading_114 rfl 1 rfl ?_
    refine v_ladd O dX10_takeReading_115 ?_
    refine v_putL O dX10_takeReading_116 fo_X10_268 fp_10_48 sh_48 rfl ?_
    refine v_aload_n O dX10_takeReading_119 rfl 0 rfl ?_
    refine v_dup O dX10_takeReading_120 rfl ?_
    refine v_get O dX10_takeReading_121 fo_X10_272 sh_48 rfl rfl ?_
    refine v_iload_n O dX10_takeReading_124 rfl 2 rfl ?_
    refine v_iand O dX10_takeReading_125 ?_
    refine v_putI O dX10_takeReading_126 fo_X10_272 fp_10_51 sh_48 rfl rfl rfl ?_
    refine v_aload_n O dX10_takeReading_129 rfl 0 rfl ?_
    refine v_dup O dX10_takeReading_130 rfl ?_
    refine v_get O dX10_takeReading_131 fo_X10_275 sh_48 rfl rfl ?_
    refine v_iload_n O dX10_takeReading_134 rfl 2 rfl ?_
    refine v_ior O dX10_takeReading_135 ?_
    refine v_putI O dX10_takeReading_136 fo_X10_275 fp_10_52 sh_48 rfl rfl rfl ?_
    refine v_nmX (fun X2 hX3 => ?_)
    refine v_aload_n O dX10_takeReading_139 rfl 0 rfl ?_
    refine v_get O dX10_takeReading_140 fo_X10_278 sh_48 rfl rfl ?_
    refine v_aload_n O dX10_takeReading_143 rfl 0 rfl ?_
    refine v_get O dX10_takeReading_144 fo_X10_249 sh_48 rfl rfl ?_
    refine v_icmp_ne (tgt := 205) O dX10_takeReading_147 (by decide) (fun g4 => ?_) (fun g4 => ?_)
    · refine v_aload_n O dX10_takeReading_205 rfl 0 rfl ?_
      refine v_dup O dX10_takeReading_206 rfl ?_
      refine v_get O dX10_takeReading_207 fo_X10_278 sh_48 rfl rfl ?_
      refine v_iconst O dX10_takeReading_210 kc_1 ?_
      refine v_iadd O dX10_takeReading_211 ?_
      refine v_putI O dX10_takeReading_212 fo_X10_278 fp_10_47 sh_48 rfl rfl rfl ?_
      exact v_vret O r dX10_takeReading_215 ⟨rfl, (((h.1 g1) X2 hX3).1 g4)⟩
    · refine v_iconst O dX10_takeReading_150 kc_0 ?_
      refine v_istore (lv' := [(4, .int 0), (0, .ref 48), (1, .long a1), (3, .int a3)]) O dX10_takeReading_151 (by decide) rfl ?_
      exact v_loc [1, 0] rfl (e153 0 X2 (sY Y 48 48 ((Y 48 48) + a1)) (((h.1 g1) X2 hX3).2 g4))
  · refine v_aload_n O dX10_takeReading_62 rfl 0 rfl ?_
    refine v_get O dX10_takeReading_63 fo_X10_92 sh_48 rfl rfl ?_
    refine v_iload O dX10_takeReading_66 3 rfl ?_
    refine v_dup2 O dX10_takeReading_68 rfl rfl ?_
    refine v_iald O dX10_takeReading_69 sh_75 (h.2 g1).1 ?_
    refine v_iconst O dX10_takeReading_70 kc_1 ?_
    refine v_aload_n O dX10_takeReading_71 rfl 0 rfl ?_
    refine v_get O dX10_takeReading_72 fo_X10_86 sh_48 rfl rfl ?_
    refine v_iload O dX10_takeReading_75 3 rfl ?_
    refine v_iald O dX10_takeReading_77 sh_73 (h.2 g1).2.1 ?_
    refine v_ishl O dX10_takeReading_78 ?_
    refine v_ior O dX10_takeReading_79 ?_
    refine v_iast O dX10_takeReading_80 sh_75 (h.2 g1).2.2.1 ?_
    refine v_nmX (fun X5 hX6 => ?_)
    refine v_aload_n O dX10_takeReading_81 rfl 0 rfl ?_
    refine v_get O dX10_takeReading_82 fo_X10_95 sh_48 rfl rfl ?_
    refine v_bipush O dX10_takeReading_85 kb_10 ?_
    refine v_iload O dX10_takeReading_87 3 rfl ?_
    refine v_imul O dX10_takeReading_89 ?_
    refine v_aload_n O dX10_takeReading_90 rfl 0 rfl ?_
    refine v_get O dX10_takeReading_91 fo_X10_86 sh_48 rfl rfl ?_
    refine v_iload O dX10_takeReading_94 3 rfl ?_
    refine v_iald O dX10_takeReading_96 sh_73 ((h.2 g1).2.2.2 X5 hX6).1 ?_
    refine v_iadd O dX10_takeReading_97 ?_
    refine v_dup2 O dX10_takeReading_98 rfl rfl ?_
    refine v_lald O dX10_takeReading_99 sh_76 ((h.2 g1).2.2.2 X5 hX6).2.1 ?_
    refine v_lload_n O dX10_takeReading_100 rfl 1 rfl ?_
    refine v_ladd O dX10_takeReading_101 ?_
    refine v_last O dX10_takeReading_102 sh_76 ((h.2 g1).2.2.2 X5 hX6).2.2.1 ?_
    refine v_nmY (fun Y7 hY8 => ?_)
    obtain ⟨w9, hw10⟩ : ∃ y : Int32, y = a4 + 1 := ⟨_, rfl⟩
    refine v_iinc (v := w9) (j := 3) O dX10_takeReading_103 rfl (by rw [hw10]; exact congrArg _ kc_1) (by decide) (lv' := [(4, .int w9), (0, .ref 48), (1, .long a1), (3, .int a3)]) rfl ?_
    refine v_goto O dX10_takeReading_106 (tgt := 53) (by decide) ?_
    exact v_loc [1, 2, 3, 0] rfl (e53 a1 a3 w9 X5 Y7 ((((h.2 g1).2.2.2 X5 hX6).2.2.2 Y7 hY8) w9 hw10))
set_option maxHeartbeats 4000000 in
set_option maxRecDepth 100000 in
theorem kX10_takeReading_153 {Γ : Cxt} {Q : XT → YT → Prop} (O : Ok Γ RX10 cX10_takeReading 5 { frames := 0, cells := 0, slots := 0, locals := 0 }) (r : Ret Γ none (qV Q)) {I7 : Int64 → Int32 → Int32 → XT → YT → Prop} {I53 : Int64 → Int32 → Int32 → XT → YT → Prop} {I153 : Int32 → XT → YT → Prop} (e7 : ∀ (a1 : Int64) (a3 : Int32) (a4 : Int32) (X : XT) (Y : YT), I7 a1 a3 a4 X Y → V Γ 7 [(0, .ref 48), (1, .long a1), (3, .int a3), (4, .int a4)] [] X Y) (e53 : ∀ (a1 : Int64) (a3 : Int32) (a4 : Int32) (X : XT) (Y : YT), I53 a1 a3 a4 X Y → V Γ 53 [(0, .ref 48), (1, .long a1), (3, .int a3), (4, .int a4)] [] X Y) (e153 : ∀ (a4 : Int32) (X : XT) (Y : YT), I153 a4 X Y → V Γ 153 [(0, .ref 48), (4, .int a4)] [] X Y) {a4 : Int32} {X : XT} {Y : YT} (h : BX10_takeReading_153 I7 I53 I153 Q a4 X Y) : V Γ 153 [(0, .ref 48), (4, .int a4)] [] X Y := by
  refine v_iload O dX10_takeReading_153 1 rfl ?_
  refine v_aload_n O dX10_takeReading_155 rfl 0 rfl ?_
  refine v_get O dX10_takeReading_156 fo_X10_265 sh_48 rfl rfl ?_
  refine v_icmp_ge (tgt := 205) O dX10_takeReading_159 (by decide) (fun g1 => ?_) (fun g1 => ?_)
  · refine v_aload_n O dX10_takeReading_205 rfl 0 rfl ?_
    refine v_dup O dX10_takeReading_206 rfl ?_
    refine v_get O dX10_takeReading_207 fo_X10_278 sh_48 rfl rfl ?_
    refine v_iconst O dX10_takeReading_210 kc_1 ?_
    refine v_iadd O dX10_takeReading_211 ?_
    refine v_putI O dX10_takeReading_212 fo_X10_278 fp_10_47 sh_48 rfl rfl rfl ?_
    exact v_vret O r dX10_takeReading_215 ⟨rfl, (h.1 g1)⟩
  · refine v_aload_n O dX10_takeReading_162 rfl 0 rfl ?_
    refine v_aload_n O dX10_takeReading_163 rfl 0 rfl ?_
    refine v_get O dX10_takeReading_164 fo_X10_52 sh_48 rfl rfl ?_
    refine v_aload_n O dX10_takeReading_167 rfl 0 rfl ?_
    refine v_get O dX10_takeReading_168 fo_X10_83 sh_48 rfl rfl ?_
    refine v_iload O dX10_takeReading_171 1 rfl ?_
    refine v_iald O dX10_takeReading_173 sh_72 (h.2 g1).1 ?_
    refine v_iald O dX10_takeReading_174 sh_63 (h.2 g1).2.1 ?_
    refine v_aload_n O dX10_takeReading_175 rfl 0 rfl ?_
    refine v_get O dX10_takeReading_176 fo_X10_252 sh_48 rfl rfl ?_
    refine v_icmp_ne (tgt := 192) O dX10_takeReading_179 (by decide) (fun g2 => ?_) (fun g2 => ?_)
    · refine v_aload_n O dX10_takeReading_192 rfl 0 rfl ?_
      refine v_get O dX10_takeReading_193 fo_X10_281 sh_48 rfl rfl ?_
      refine v_putI O dX10_takeReading_196 fo_X10_281 fp_10_55 sh_48 rfl rfl rfl ?_
      obtain ⟨w3, hw4⟩ : ∃ y : Int32, y = a4 + 1 := ⟨_, rfl⟩
      refine v_iinc (v := w3) (j := 1) O dX10_takeReading_199 rfl (by rw [hw4]; exact congrArg _ kc_1) (by decide) (lv' := [(4, .int w3), (0, .ref 48)]) rfl ?_
      refine v_goto O dX10_takeReading_202 (tgt := 153) (by decide) ?_
      exact v_loc [1, 0] rfl (e153 w3 (sX X 48 55 (X 48 55)) Y (((h.2 g1).2.2.1 g2) w3 hw4))
    · refine v_aload_n O dX10_takeReading_182 rfl 0 rfl ?_
      refine v_get O dX10_takeReading_183 fo_X10_86 sh_48 rfl rfl ?_
      refine v_iload O dX10_takeReading_186 1 rfl ?_
      refine v_iald O dX10_takeReading_188 sh_73 ((h.2 g1).2.2.2 g2).1 ?_
      refine v_goto O dX10_takeReading_189 (tgt := 196) (by decide) ?_
      refine v_putI O dX10_takeReading_196 fo_X10_281 fp_10_55 sh_48 rfl rfl rfl ?_
      obtain ⟨w5, hw6⟩ : ∃ y : Int32, y = a4 + 1 := ⟨_, rfl⟩
      refine v_iinc (v := w5) (j := 1) O dX10_takeReading_199 rfl (by rw [hw6]; exact congrArg _ kc_1) (by decide) (lv' := [(4, .int w5), (0, .ref 48)]) rfl ?_
      refine v_goto O dX10_takeReading_202 (tgt := 153) (by decide) ?_
      exact v_loc [1, 0] rfl (e153 w5 (sX X 48 55 (X 73 a4.toNatClampNeg)) Y (((h.2 g1).2.2.2 g2).2 w5 hw6))
set_option maxHeartbeats 4000000 in
set_option maxRecDepth 100000 in
theorem kX10_takeReading_s {Γ : Cxt} {Q : XT → YT → Prop} (O : Ok Γ RX10 cX10_takeReading 5 { frames := 0, cells := 0, slots := 0, locals := 0 }) (r : Ret Γ none (qV Q)) {I7 : Int64 → Int32 → Int32 → XT → YT → Prop} {I53 : Int64 → Int32 → Int32 → XT → YT → Prop} {I153 : Int32 → XT → YT → Prop} (e7 : ∀ (a1 : Int64) (a3 : Int32) (a4 : Int32) (X : XT) (Y : YT), I7 a1 a3 a4 X Y → V Γ 7 [(0, .ref 48), (1, .long a1), (3, .int a3), (4, .int a4)] [] X Y) (e53 : ∀ (a1 : Int64) (a3 : Int32) (a4 : Int32) (X : XT) (Y : YT), I53 a1 a3 a4 X Y → V Γ 53 [(0, .ref 48), (1, .long a1), (3, .int a3), (4, .int a4)] [] X Y) (e153 : ∀ (a4 : Int32) (X : XT) (Y : YT), I153 a4 X Y → V Γ 153 [(0, .ref 48), (4, .int a4)] [] X Y) {X : XT} {Y : YT} (h : BX10_takeReading_s I7 I53 I153 Q X Y) : V Γ 0 [(0, .ref 48)] [] X Y := by
  refine v_lconst O dX10_takeReading_0 (v := 1) (by decide) ?_
  refine v_lstore_n (lv' := [(1, .long (1 : Int64)), (0, .ref 48)]) O dX10_takeReading_1 rfl (by decide) rfl ?_
  refine v_iconst O dX10_takeReading_2 kc_0 ?_
  refine v_istore_n (lv' := [(3, .int 0), (1, .long (1 : Int64)), (0, .ref 48)]) O dX10_takeReading_3 rfl (by decide) rfl ?_
  refine v_iconst O dX10_takeReading_4 kc_0 ?_
  refine v_istore (lv' := [(4, .int 0), (3, .int 0), (1, .long (1 : Int64)), (0, .ref 48)]) O dX10_takeReading_5 (by decide) rfl ?_
  exact v_loc [3, 2, 1, 0] rfl (e7 (1 : Int64) 0 0 X Y h)
set_option maxRecDepth 100000 in
theorem mX10_takeReading {Γ : Cxt} {X : XT} {Y : YT} {Q : XT → YT → Prop} (h : PX10_takeReading X Y Q) : MT Γ yX10_takeReading (.code yX10_takeReading cX10_takeReading 5 none :: wl) { frames := 0, cells := 0, slots := 0, locals := 0 } [.ref 48] X Y (qV Q) :=
  mt_of (by decide) (Nat.le_of_ble_eq_true rfl) (fun Γ _ O r => kX10_takeReading_s O r (fun _ _ _ _ _ g => g) (fun _ _ _ _ _ g => g) (fun _ _ _ g => g) (h (fun a1 a3 a4 X Y => V Γ 7 [(0, .ref 48), (1, .long a1), (3, .int a3), (4, .int a4)] [] X Y) (fun a1 a3 a4 X Y => V Γ 53 [(0, .ref 48), (1, .long a1), (3, .int a3), (4, .int a4)] [] X Y) (fun a4 X Y => V Γ 153 [(0, .ref 48), (4, .int a4)] [] X Y) (fun _ _ _ _ _ g => kX10_takeReading_7 O r (fun _ _ _ _ _ g => g) (fun _ _ _ _ _ g => g) (fun _ _ _ g => g) g) (fun _ _ _ _ _ g => kX10_takeReading_53 O r (fun _ _ _ _ _ g => g) (fun _ _ _ _ _ g => g) (fun _ _ _ g => g) g) (fun _ _ _ g => kX10_takeReading_153 O r (fun _ _ _ _ _ g => g) (fun _ _ _ _ _ g => g) (fun _ _ _ g => g) g)))
theorem dX10_goThrough_0 : decode cX10_goThrough 0 = .ok (.aload_n 0, 1) := by decide +kernel
theorem dX10_goThrough_1 : decode cX10_goThrough 1 = .ok (.invokevirtual 284, 3) := by decide +kernel
theorem dX10_goThrough_4 : decode cX10_goThrough 4 = .ok (.aload_n 0, 1) := by decide +kernel
theorem dX10_goThrough_5 : decode cX10_goThrough 5 = .ok (.invokevirtual 287, 3) := by decide +kernel
theorem dX10_goThrough_8 : decode cX10_goThrough 8 = .ok (.aload_n 0, 1) := by decide +kernel
theorem dX10_goThrough_9 : decode cX10_goThrough 9 = .ok (.iconst 0, 1) := by decide +kernel
theorem dX10_goThrough_10 : decode cX10_goThrough 10 = .ok (.putfield 265, 3) := by decide +kernel
theorem dX10_goThrough_13 : decode cX10_goThrough 13 = .ok (.iconst 0, 1) := by decide +kernel
theorem dX10_goThrough_14 : decode cX10_goThrough 14 = .ok (.istore_n 1, 1) := by decide +kernel
theorem dX10_goThrough_15 : decode cX10_goThrough 15 = .ok (.iload_n 1, 1) := by decide +kernel
theorem dX10_goThrough_16 : decode cX10_goThrough 16 = .ok (.aload_n 0, 1) := by decide +kernel
theorem dX10_goThrough_17 : decode cX10_goThrough 17 = .ok (.getfield 159, 3) := by decide +kernel
theorem dX10_goThrough_20 : decode cX10_goThrough 20 = .ok (.if_icmp .ge 63, 3) := by decide +kernel
theorem dX10_goThrough_23 : decode cX10_goThrough 23 = .ok (.aload_n 0, 1) := by decide +kernel
theorem dX10_goThrough_24 : decode cX10_goThrough 24 = .ok (.getfield 240, 3) := by decide +kernel
theorem dX10_goThrough_27 : decode cX10_goThrough 27 = .ok (.aload_n 0, 1) := by decide +kernel
theorem dX10_goThrough_28 : decode cX10_goThrough 28 = .ok (.getfield 43, 3) := by decide +kernel
theorem dX10_goThrough_31 : decode cX10_goThrough 31 = .ok (.iload_n 1, 1) := by decide +kernel
theorem dX10_goThrough_32 : decode cX10_goThrough 32 = .ok (.iaload, 1) := by decide +kernel
theorem dX10_goThrough_33 : decode cX10_goThrough 33 = .ok (.ishr, 1) := by decide +kernel
theorem dX10_goThrough_34 : decode cX10_goThrough 34 = .ok (.iconst 1, 1) := by decide +kernel
theorem dX10_goThrough_35 : decode cX10_goThrough 35 = .ok (.iand, 1) := by decide +kernel
theorem dX10_goThrough_36 : decode cX10_goThrough 36 = .ok (.iconst 1, 1) := by decide +kernel
theorem dX10_goThrough_37 : decode cX10_goThrough 37 = .ok (.if_icmp .ne 40, 3) := by decide +kernel
theorem dX10_goThrough_40 : decode cX10_goThrough 40 = .ok (.aload_n 0, 1) := by decide +kernel
theorem dX10_goThrough_41 : decode cX10_goThrough 41 = .ok (.getfield 49, 3) := by decide +kernel
theorem dX10_goThrough_44 : decode cX10_goThrough 44 = .ok (.iload_n 1, 1) := by decide +kernel
theorem dX10_goThrough_45 : decode cX10_goThrough 45 = .ok (.iaload, 1) := by decide +kernel
theorem dX10_goThrough_46 : decode cX10_goThrough 46 = .ok (.ifCond .lt 11, 3) := by decide +kernel
theorem dX10_goThrough_49 : decode cX10_goThrough 49 = .ok (.aload_n 0, 1) := by decide +kernel
theorem dX10_goThrough_50 : decode cX10_goThrough 50 = .ok (.iload_n 1, 1) := by decide +kernel
theorem dX10_goThrough_51 : decode cX10_goThrough 51 = .ok (.invokevirtual 255, 3) := by decide +kernel
theorem dX10_goThrough_54 : decode cX10_goThrough 54 = .ok (.ifCond .eq 23, 3) := by decide +kernel
theorem dX10_goThrough_57 : decode cX10_goThrough 57 = .ok (.aload_n 0, 1) := by decide +kernel
theorem dX10_goThrough_58 : decode cX10_goThrough 58 = .ok (.getfield 83, 3) := by decide +kernel
theorem dX10_goThrough_61 : decode cX10_goThrough 61 = .ok (.aload_n 0, 1) := by decide +kernel
theorem dX10_goThrough_62 : decode cX10_goThrough 62 = .ok (.getfield 265, 3) := by decide +kernel
theorem dX10_goThrough_65 : decode cX10_goThrough 65 = .ok (.iload_n 1, 1) := by decide +kernel
theorem dX10_goThrough_66 : decode cX10_goThrough 66 = .ok (.iastore, 1) := by decide +kernel
theorem dX10_goThrough_67 : decode cX10_goThrough 67 = .ok (.aload_n 0, 1) := by decide +kernel
theorem dX10_goThrough_68 : decode cX10_goThrough 68 = .ok (.dup, 1) := by decide +kernel
theorem dX10_goThrough_69 : decode cX10_goThrough 69 = .ok (.getfield 265, 3) := by decide +kernel
theorem dX10_goThrough_72 : decode cX10_goThrough 72 = .ok (.iconst 1, 1) := by decide +kernel
theorem dX10_goThrough_73 : decode cX10_goThrough 73 = .ok (.iadd, 1) := by decide +kernel
theorem dX10_goThrough_74 : decode cX10_goThrough 74 = .ok (.putfield 265, 3) := by decide +kernel
theorem dX10_goThrough_77 : decode cX10_goThrough 77 = .ok (.iinc 1 1, 3) := by decide +kernel
theorem dX10_goThrough_80 : decode cX10_goThrough 80 = .ok (.goto (-65), 3) := by decide +kernel
theorem dX10_goThrough_83 : decode cX10_goThrough 83 = .ok (.iconst 0, 1) := by decide +kernel
theorem dX10_goThrough_84 : decode cX10_goThrough 84 = .ok (.istore_n 1, 1) := by decide +kernel
theorem dX10_goThrough_85 : decode cX10_goThrough 85 = .ok (.iload_n 1, 1) := by decide +kernel
theorem dX10_goThrough_86 : decode cX10_goThrough 86 = .ok (.aload_n 0, 1) := by decide +kernel
theorem dX10_goThrough_87 : decode cX10_goThrough 87 = .ok (.getfield 265, 3) := by decide +kernel
theorem dX10_goThrough_90 : decode cX10_goThrough 90 = .ok (.if_icmp .ge 42, 3) := by decide +kernel
theorem dX10_goThrough_93 : decode cX10_goThrough 93 = .ok (.aload_n 0, 1) := by decide +kernel
theorem dX10_goThrough_94 : decode cX10_goThrough 94 = .ok (.getfield 92, 3) := by decide +kernel
theorem dX10_goThrough_97 : decode cX10_goThrough 97 = .ok (.iload_n 1, 1) := by decide +kernel
theorem dX10_goThrough_98 : decode cX10_goThrough 98 = .ok (.iconst 0, 1) := by decide +kernel
theorem dX10_goThrough_99 : decode cX10_goThrough 99 = .ok (.iastore, 1) := by decide +kernel
theorem dX10_goThrough_100 : decode cX10_goThrough 100 = .ok (.iconst 0, 1) := by decide +kernel
theorem dX10_goThrough_101 : decode cX10_goThrough 101 = .ok (.istore_n 2, 1) := by decide +kernel
theorem dX10_goThrough_102 : decode cX10_goThrough 102 = .ok (.iload_n 2, 1) := by decide +kernel
theorem dX10_goThrough_103 : decode cX10_goThrough 103 = .ok (.bipush 10, 2) := by decide +kernel
theorem dX10_goThrough_105 : decode cX10_goThrough 105 = .ok (.if_icmp .ge 21, 3) := by decide +kernel
theorem dX10_goThrough_108 : decode cX10_goThrough 108 = .ok (.aload_n 0, 1) := by decide +kernel
theorem dX10_goThrough_109 : decode cX10_goThrough 109 = .ok (.getfield 95, 3) := by decide +kernel
theorem dX10_goThrough_112 : decode cX10_goThrough 112 = .ok (.bipush 10, 2) := by decide +kernel
theorem dX10_goThrough_114 : decode cX10_goThrough 114 = .ok (.iload_n 1, 1) := by decide +kernel
theorem dX10_goThrough_115 : decode cX10_goThrough 115 = .ok (.imul, 1) := by decide +kernel
theorem dX10_goThrough_116 : decode cX10_goThrough 116 = .ok (.iload_n 2, 1) := by decide +kernel
theorem dX10_goThrough_117 : decode cX10_goThrough 117 = .ok (.iadd, 1) := by decide +kernel
theorem dX10_goThrough_118 : decode cX10_goThrough 118 = .ok (.lconst 0, 1) := by decide +kernel
theorem dX10_goThrough_119 : decode cX10_goThrough 119 = .ok (.lastore, 1) := by decide +kernel
theorem dX10_goThrough_120 : decode cX10_goThrough 120 = .ok (.iinc 2 1, 3) := by decide +kernel
theorem dX10_goThrough_123 : decode cX10_goThrough 123 = .ok (.goto (-21), 3) := by decide +kernel
theorem dX10_goThrough_126 : decode cX10_goThrough 126 = .ok (.iinc 1 1, 3) := by decide +kernel
theorem dX10_goThrough_129 : decode cX10_goThrough 129 = .ok (.goto (-44), 3) := by decide +kernel
theorem dX10_goThrough_132 : decode cX10_goThrough 132 = .ok (.aload_n 0, 1) := by decide +kernel
theorem dX10_goThrough_133 : decode cX10_goThrough 133 = .ok (.iconst 0, 1) := by decide +kernel
theorem dX10_goThrough_134 : decode cX10_goThrough 134 = .ok (.putfield 278, 3) := by decide +kernel
theorem dX10_goThrough_137 : decode cX10_goThrough 137 = .ok (.aload_n 0, 1) := by decide +kernel
theorem dX10_goThrough_138 : decode cX10_goThrough 138 = .ok (.lconst 0, 1) := by decide +kernel
theorem dX10_goThrough_139 : decode cX10_goThrough 139 = .ok (.putfield 268, 3) := by decide +kernel
theorem dX10_goThrough_142 : decode cX10_goThrough 142 = .ok (.aload_n 0, 1) := by decide +kernel
theorem dX10_goThrough_143 : decode cX10_goThrough 143 = .ok (.iconst 1, 1) := by decide +kernel
theorem dX10_goThrough_144 : decode cX10_goThrough 144 = .ok (.aload_n 0, 1) := by decide +kernel
theorem dX10_goThrough_145 : decode cX10_goThrough 145 = .ok (.getfield 123, 3) := by decide +kernel
theorem dX10_goThrough_148 : decode cX10_goThrough 148 = .ok (.ishl, 1) := by decide +kernel
theorem dX10_goThrough_149 : decode cX10_goThrough 149 = .ok (.iconst 1, 1) := by decide +kernel
theorem dX10_goThrough_150 : decode cX10_goThrough 150 = .ok (.isub, 1) := by decide +kernel
theorem dX10_goThrough_151 : decode cX10_goThrough 151 = .ok (.putfield 272, 3) := by decide +kernel
theorem dX10_goThrough_154 : decode cX10_goThrough 154 = .ok (.aload_n 0, 1) := by decide +kernel
theorem dX10_goThrough_155 : decode cX10_goThrough 155 = .ok (.iconst 0, 1) := by decide +kernel
theorem dX10_goThrough_156 : decode cX10_goThrough 156 = .ok (.putfield 275, 3) := by decide +kernel
theorem dX10_goThrough_159 : decode cX10_goThrough 159 = .ok (.aload_n 0, 1) := by decide +kernel
theorem dX10_goThrough_160 : decode cX10_goThrough 160 = .ok (.iconst (-1), 1) := by decide +kernel
theorem dX10_goThrough_161 : decode cX10_goThrough 161 = .ok (.putfield 281, 3) := by decide +kernel
theorem dX10_goThrough_164 : decode cX10_goThrough 164 = .ok (.aload_n 0, 1) := by decide +kernel
theorem dX10_goThrough_165 : decode cX10_goThrough 165 = .ok (.getfield 265, 3) := by decide +kernel
theorem dX10_goThrough_168 : decode cX10_goThrough 168 = .ok (.ifCond .ne 14, 3) := by decide +kernel
theorem dX10_goThrough_171 : decode cX10_goThrough 171 = .ok (.aload_n 0, 1) := by decide +kernel
theorem dX10_goThrough_172 : decode cX10_goThrough 172 = .ok (.iconst 0, 1) := by decide +kernel
theorem dX10_goThrough_173 : decode cX10_goThrough 173 = .ok (.putfield 272, 3) := by decide +kernel
theorem dX10_goThrough_176 : decode cX10_goThrough 176 = .ok (.aload_n 0, 1) := by decide +kernel
theorem dX10_goThrough_177 : decode cX10_goThrough 177 = .ok (.invokevirtual 290, 3) := by decide +kernel
theorem dX10_goThrough_180 : decode cX10_goThrough 180 = .ok (.iconst 1, 1) := by decide +kernel
theorem dX10_goThrough_181 : decode cX10_goThrough 181 = .ok (.ireturn, 1) := by decide +kernel
theorem dX10_goThrough_182 : decode cX10_goThrough 182 = .ok (.iconst 0, 1) := by decide +kernel
theorem dX10_goThrough_183 : decode cX10_goThrough 183 = .ok (.istore_n 1, 1) := by decide +kernel
theorem dX10_goThrough_184 : decode cX10_goThrough 184 = .ok (.iconst 0, 1) := by decide +kernel
theorem dX10_goThrough_185 : decode cX10_goThrough 185 = .ok (.istore_n 2, 1) := by decide +kernel
theorem dX10_goThrough_186 : decode cX10_goThrough 186 = .ok (.aload_n 0, 1) := by decide +kernel
theorem dX10_goThrough_187 : decode cX10_goThrough 187 = .ok (.getfield 86, 3) := by decide +kernel
theorem dX10_goThrough_190 : decode cX10_goThrough 190 = .ok (.iconst 0, 1) := by decide +kernel
theorem dX10_goThrough_191 : decode cX10_goThrough 191 = .ok (.iconst (-1), 1) := by decide +kernel
theorem dX10_goThrough_192 : decode cX10_goThrough 192 = .ok (.iastore, 1) := by decide +kernel
theorem dX10_goThrough_193 : decode cX10_goThrough 193 = .ok (.iload_n 2, 1) := by decide +kernel
theorem dX10_goThrough_194 : decode cX10_goThrough 194 = .ok (.ifCond .lt 100, 3) := by decide +kernel
theorem dX10_goThrough_197 : decode cX10_goThrough 197 = .ok (.aload_n 0, 1) := by decide +kernel
theorem dX10_goThrough_198 : decode cX10_goThrough 198 = .ok (.getfield 86, 3) := by decide +kernel
theorem dX10_goThrough_201 : decode cX10_goThrough 201 = .ok (.iload_n 2, 1) := by decide +kernel
theorem dX10_goThrough_202 : decode cX10_goThrough 202 = .ok (.dup2, 1) := by decide +kernel
theorem dX10_goThrough_203 : decode cX10_goThrough 203 = .ok (.iaload, 1) := by decide +kernel
theorem dX10_goThrough_204 : decode cX10_goThrough 204 = .ok (.iconst 1, 1) := by decide +kernel
theorem dX10_goThrough_205 : decode cX10_goThrough 205 = .ok (.iadd, 1) := by decide +kernel
theorem dX10_goThrough_206 : decode cX10_goThrough 206 = .ok (.iastore, 1) := by decide +kernel
theorem dX10_goThrough_207 : decode cX10_goThrough 207 = .ok (.aload_n 0, 1) := by decide +kernel
theorem dX10_goThrough_208 : decode cX10_goThrough 208 = .ok (.getfield 86, 3) := by decide +kernel
theorem dX10_goThrough_211 : decode cX10_goThrough 211 = .ok (.iload_n 2, 1) := by decide +kernel
theorem dX10_goThrough_212 : decode cX10_goThrough 212 = .ok (.iaload, 1) := by decide +kernel
theorem dX10_goThrough_213 : decode cX10_goThrough 213 = .ok (.aload_n 0, 1) := by decide +kernel
theorem dX10_goThrough_214 : decode cX10_goThrough 214 = .ok (.getfield 123, 3) := by decide +kernel
theorem dX10_goThrough_217 : decode cX10_goThrough 217 = .ok (.if_icmp .lt 9, 3) := by decide +kernel
theorem dX10_goThrough_220 : decode cX10_goThrough 220 = .ok (.iinc 2 (-1), 3) := by decide +kernel
theorem dX10_goThrough_223 : decode cX10_goThrough 223 = .ok (.goto (-30), 3) := by decide +kernel
theorem dX10_goThrough_226 : decode cX10_goThrough 226 = .ok (.iload_n 1, 1) := by decide +kernel
theorem dX10_goThrough_227 : decode cX10_goThrough 227 = .ok (.sipush 3000, 3) := by decide +kernel
theorem dX10_goThrough_230 : decode cX10_goThrough 230 = .ok (.if_icmp .ne 5, 3) := by decide +kernel
theorem dX10_goThrough_233 : decode cX10_goThrough 233 = .ok (.iconst 0, 1) := by decide +kernel
theorem dX10_goThrough_234 : decode cX10_goThrough 234 = .ok (.ireturn, 1) := by decide +kernel
theorem dX10_goThrough_235 : decode cX10_goThrough 235 = .ok (.iinc 1 1, 3) := by decide +kernel
theorem dX10_goThrough_238 : decode cX10_goThrough 238 = .ok (.aload_n 0, 1) := by decide +kernel
theorem dX10_goThrough_239 : decode cX10_goThrough 239 = .ok (.iload_n 2, 1) := by decide +kernel
theorem dX10_goThrough_240 : decode cX10_goThrough 240 = .ok (.aload_n 0, 1) := by decide +kernel
theorem dX10_goThrough_241 : decode cX10_goThrough 241 = .ok (.getfield 86, 3) := by decide +kernel
theorem dX10_goThrough_244 : decode cX10_goThrough 244 = .ok (.iload_n 2, 1) := by decide +kernel
theorem dX10_goThrough_245 : decode cX10_goThrough 245 = .ok (.iaload, 1) := by decide +kernel
theorem dX10_goThrough_246 : decode cX10_goThrough 246 = .ok (.invokevirtual 293, 3) := by decide +kernel
theorem dX10_goThrough_249 : decode cX10_goThrough 249 = .ok (.ifCond .eq (-56), 3) := by decide +kernel
theorem dX10_goThrough_252 : decode cX10_goThrough 252 = .ok (.iload_n 2, 1) := by decide +kernel
theorem dX10_goThrough_253 : decode cX10_goThrough 253 = .ok (.iconst 1, 1) := by decide +kernel
theorem dX10_goThrough_254 : decode cX10_goThrough 254 = .ok (.iadd, 1) := by decide +kernel
theorem dX10_goThrough_255 : decode cX10_goThrough 255 = .ok (.aload_n 0, 1) := by decide +kernel
theorem dX10_goThrough_256 : decode cX10_goThrough 256 = .ok (.getfield 265, 3) := by decide +kernel
theorem dX10_goThrough_259 : decode cX10_goThrough 259 = .ok (.if_icmp .ne 22, 3) := by decide +kernel
theorem dX10_goThrough_262 : decode cX10_goThrough 262 = .ok (.aload_n 0, 1) := by decide +kernel
theorem dX10_goThrough_263 : decode cX10_goThrough 263 = .ok (.invokevirtual 290, 3) := by decide +kernel
theorem dX10_goThrough_266 : decode cX10_goThrough 266 = .ok (.aload_n 0, 1) := by decide +kernel
theorem dX10_goThrough_267 : decode cX10_goThrough 267 = .ok (.getfield 278, 3) := by decide +kernel
theorem dX10_goThrough_270 : decode cX10_goThrough 270 = .ok (.iconst 1, 1) := by decide +kernel
theorem dX10_goThrough_271 : decode cX10_goThrough 271 = .ok (.isub, 1) := by decide +kernel
theorem dX10_goThrough_272 : decode cX10_goThrough 272 = .ok (.aload_n 0, 1) := by decide +kernel
theorem dX10_goThrough_273 : decode cX10_goThrough 273 = .ok (.getfield 249, 3) := by decide +kernel
theorem dX10_goThrough_276 : decode cX10_goThrough 276 = .ok (.if_icmp .ne (-83), 3) := by decide +kernel
theorem dX10_goThrough_279 : decode cX10_goThrough 279 = .ok (.iconst 1, 1) := by decide +kernel
theorem dX10_goThrough_280 : decode cX10_goThrough 280 = .ok (.ireturn, 1) := by decide +kernel
theorem dX10_goThrough_281 : decode cX10_goThrough 281 = .ok (.iinc 2 1, 3) := by decide +kernel
theorem dX10_goThrough_284 : decode cX10_goThrough 284 = .ok (.aload_n 0, 1) := by decide +kernel
theorem dX10_goThrough_285 : decode cX10_goThrough 285 = .ok (.getfield 86, 3) := by decide +kernel
theorem dX10_goThrough_288 : decode cX10_goThrough 288 = .ok (.iload_n 2, 1) := by decide +kernel
theorem dX10_goThrough_289 : decode cX10_goThrough 289 = .ok (.iconst (-1), 1) := by decide +kernel
theorem dX10_goThrough_290 : decode cX10_goThrough 290 = .ok (.iastore, 1) := by decide +kernel
theorem dX10_goThrough_291 : decode cX10_goThrough 291 = .ok (.goto (-98), 3) := by decide +kernel
theorem dX10_goThrough_294 : decode cX10_goThrough 294 = .ok (.iconst 1, 1) := by decide +kernel
theorem dX10_goThrough_295 : decode cX10_goThrough 295 = .ok (.ireturn, 1) := by decide +kernel
def BX10_goThrough_15 (I15 : Int32 → XT → YT → Prop) (I85 : Int32 → XT → YT → Prop) (I193 : Int32 → Int32 → XT → YT → Prop) (I102 : Int32 → Int32 → XT → YT → Prop) (Q : Int32 → XT → YT → Prop) (a1 : Int32) (X : XT) (Y : YT) : Prop :=
  (((X 48 16) ≤ a1 → I85 0 X Y) ∧ (¬ (X 48 16) ≤ a1 → vp_in a1 32 ∧ ((¬ (((X 48 37) >>> ((X 60 a1.toNatClampNeg) &&& 31)) &&& 1) = 1 → ∀ w3 : Int32, w3 = a1 + 1 → I15 w3 X Y) ∧ ((((X 48 37) >>> ((X 60 a1.toNatClampNeg) &&& 31)) &&& 1) = 1 → vp_in a1 32 ∧ (((X 62 a1.toNatClampNeg) < 0 → vp_in (X 48 43) 20 ∧ ∀ X6 : XT, X6 = sX (sX X 72 (X 48 43).toNatClampNeg a1) 48 43 (((sX X 72 (X 48 43).toNatClampNeg a1) 48 43) + 1) → ∀ w8 : Int32, w8 = a1 + 1 → I15 w8 X6 Y) ∧ (¬ (X 62 a1.toNatClampNeg) < 0 → PX10_isBarred a1 X Y (fun r10 X11 Y12 => ((r10 = 0 → ∀ w15 : Int32, w15 = a1 + 1 → I15 w15 X11 Y12) ∧ (¬ r10 = 0 → vp_in (X11 48 43) 20 ∧ ∀ X17 : XT, X17 = sX (sX X11 72 (X11 48 43).toNatClampNeg a1) 48 43 (((sX X11 72 (X11 48 43).toNatClampNeg a1) 48 43) + 1) → ∀ w19 : Int32, w19 = a1 + 1 → I15 w19 X17 Y12)))))))))
def BX10_goThrough_85 (I15 : Int32 → XT → YT → Prop) (I85 : Int32 → XT → YT → Prop) (I193 : Int32 → Int32 → XT → YT → Prop) (I102 : Int32 → Int32 → XT → YT → Prop) (Q : Int32 → XT → YT → Prop) (a1 : Int32) (X : XT) (Y : YT) : Prop :=
  (((X 48 43) ≤ a1 → ∀ X2 : XT, X2 = sX (sX X 48 47 0) 48 51 ((1 <<< (((sX X 48 47 0) 48 1) &&& 31)) - 1) → ((¬ ((sX (sX X2 48 52 0) 48 55 (-1)) 48 43) = 0 → vp_in 0 20 ∧ ∀ X5 : XT, X5 = sX (sX (sX X2 48 52 0) 48 55 (-1)) 73 (0 : Int32).toNatClampNeg (-1) → I193 0 0 X5 (sY Y 48 48 (0 : Int64))) ∧ (((sX (sX X2 48 52 0) 48 55 (-1)) 48 43) = 0 → ∀ X7 : XT, X7 = sX (sX (sX X2 48 52 0) 48 55 (-1)) 48 51 0 → PX10_takeReading X7 (sY Y 48 48 (0 : Int64)) (fun X10 Y11 => Q 1 X10 Y11)))) ∧ (¬ (X 48 43) ≤ a1 → vp_in a1 20 ∧ I102 a1 0 (sX X 75 a1.toNatClampNeg 0) Y))
def BX10_goThrough_193 (I15 : Int32 → XT → YT → Prop) (I85 : Int32 → XT → YT → Prop) (I193 : Int32 → Int32 → XT → YT → Prop) (I102 : Int32 → Int32 → XT → YT → Prop) (Q : Int32 → XT → YT → Prop) (a1 : Int32) (a2 : Int32) (X : XT) (Y : YT) : Prop :=
  ((a2 < 0 → Q 1 X Y) ∧ (¬ a2 < 0 → vp_in a2 20 ∧ vp_in a2 20 ∧ ∀ X2 : XT, X2 = sX X 73 a2.toNatClampNeg ((X 73 a2.toNatClampNeg) + 1) → vp_in a2 20 ∧ (((X2 73 a2.toNatClampNeg) < (X2 48 1) → ((¬ a1 = 3000 → ∀ w6 : Int32, w6 = a1 + 1 → vp_in a2 20 ∧ PX10_mayGive a2 (X2 73 a2.toNatClampNeg) X2 Y (fun r8 X9 Y10 => ((r8 = 0 → I193 w6 a2 X9 Y10) ∧ (¬ r8 = 0 → ((¬ (a2 + 1) = (X9 48 43) → ∀ w14 : Int32, w14 = a2 + 1 → vp_in w14 20 ∧ I193 w6 w14 (sX X9 73 w14.toNatClampNeg (-1)) Y10) ∧ ((a2 + 1) = (X9 48 43) → PX10_takeReading X9 Y10 (fun X17 Y18 => ((¬ ((X17 48 47) - 1) = (X17 48 53) → I193 w6 a2 X17 Y18) ∧ (((X17 48 47) - 1) = (X17 48 53) → Q 1 X17 Y18))))))))) ∧ (a1 = 3000 → Q 0 X2 Y))) ∧ (¬ (X2 73 a2.toNatClampNeg) < (X2 48 1) → ∀ w21 : Int32, w21 = a2 + (-1) → I193 a1 w21 X2 Y))))
def BX10_goThrough_102 (I15 : Int32 → XT → YT → Prop) (I85 : Int32 → XT → YT → Prop) (I193 : Int32 → Int32 → XT → YT → Prop) (I102 : Int32 → Int32 → XT → YT → Prop) (Q : Int32 → XT → YT → Prop) (a1 : Int32) (a2 : Int32) (X : XT) (Y : YT) : Prop :=
  ((10 ≤ a2 → ∀ w2 : Int32, w2 = a1 + 1 → I85 w2 X Y) ∧ (¬ 10 ≤ a2 → vp_in ((10 * a1) + a2) 200 ∧ ∀ Y4 : YT, Y4 = sY Y 76 ((10 * a1) + a2).toNatClampNeg (0 : Int64) → ∀ w6 : Int32, w6 = a2 + 1 → I102 a1 w6 X Y4))
def BX10_goThrough_s (I15 : Int32 → XT → YT → Prop) (I85 : Int32 → XT → YT → Prop) (I193 : Int32 → Int32 → XT → YT → Prop) (I102 : Int32 → Int32 → XT → YT → Prop) (Q : Int32 → XT → YT → Prop) (X : XT) (Y : YT) : Prop :=
  PX10_findOpen X Y (fun X2 Y3 => PX10_findShown X2 Y3 (fun X6 Y7 => I15 0 (sX X6 48 43 0) Y7))
def PX10_goThrough (X : XT) (Y : YT) (Q : Int32 → XT → YT → Prop) : Prop := ∀ (I15 : Int32 → XT → YT → Prop) (I85 : Int32 → XT → YT → Prop) (I193 : Int32 → Int32 → XT → YT → Prop) (I102 : Int32 → Int32 → XT → YT → Prop), (∀ (a1 : Int32) (X : XT) (Y : YT), BX10_goThrough_15 I15 I85 I193 I102 Q a1 X Y → I15 a1 X Y) → (∀ (a1 : Int32) (X : XT) (Y : YT), BX10_goThrough_85 I15 I85 I193 I102 Q a1 X Y → I85 a1 X Y) → (∀ (a1 : Int32) (a2 : Int32) (X : XT) (Y : YT), BX10_goThrough_193 I15 I85 I193 I102 Q a1 a2 X Y → I193 a1 a2 X Y) → (∀ (a1 : Int32) (a2 : Int32) (X : XT) (Y : YT), BX10_goThrough_102 I15 I85 I193 I102 Q a1 a2 X Y → I102 a1 a2 X Y) → BX10_goThrough_s I15 I85 I193 I102 Q X Y
set_option maxHeartbeats 4000000 in
set_option maxRecDepth 100000 in
theorem kX10_goThrough_15 {Γ : Cxt} {Q : Int32 → XT → YT → Prop} (O : Ok Γ RX10 cX10_goThrough 3 { frames := 4, cells := 0, slots := 0, locals := 94 }) (r : Ret Γ (some .boolean) (qI Q)) {I15 : Int32 → XT → YT → Prop} {I85 : Int32 → XT → YT → Prop} {I193 : Int32 → Int32 → XT → YT → Prop} {I102 : Int32 → Int32 → XT → YT → Prop} (e15 : ∀ (a1 : Int32) (X : XT) (Y : YT), I15 a1 X Y → V Γ 15 [(0, .ref 48), (1, .int a1)] [] X Y) (e85 : ∀ (a1 : Int32) (X : XT) (Y : YT), I85 a1 X Y → V Γ 85 [(0, .ref 48), (1, .int a1)] [] X Y) (e193 : ∀ (a1 : Int32) (a2 : Int32) (X : XT) (Y : YT), I193 a1 a2 X Y → V Γ 193 [(0, .ref 48), (1, .int a1), (2, .int a2)] [] X Y) (e102 : ∀ (a1 : Int32) (a2 : Int32) (X : XT) (Y : YT), I102 a1 a2 X Y → V Γ 102 [(0, .ref 48), (1, .int a1), (2, .int a2)] [] X Y) {a1 : Int32} {X : XT} {Y : YT} (h : BX10_goThrough_15 I15 I85 I193 I102 Q a1 X Y) : V Γ 15 [(0, .ref 48), (1, .int a1)] [] X Y := by
  refine v_iload_n O dX10_goThrough_15 rfl 1 rfl ?_
  refine v_aload_n O dX10_goThrough_16 rfl 0 rfl ?_
  refine v_get O dX10_goThrough_17 fo_X10_159 sh_48 rfl rfl ?_
  refine v_icmp_ge (tgt := 83) O dX10_goThrough_20 (by decide) (fun g1 => ?_) (fun g1 => ?_)
  · refine v_iconst O dX10_goThrough_83 kc_0 ?_
    refine v_istore_n (lv' := [(1, .int 0), (0, .ref 48)]) O dX10_goThrough_84 rfl (by decide) rfl ?_
    exact v_loc [1, 0] rfl (e85 0 X Y (h.1 g1))
  · refine v_aload_n O dX10_goThrough_23 rfl 0 rfl ?_
    refine v_get O dX10_goThrough_24 fo_X10_240 sh_48 rfl rfl ?_
    refine v_aload_n O dX10_goThrough_27 rfl 0 rfl ?_
    refine v_get O dX10_goThrough_28 fo_X10_43 sh_48 rfl rfl ?_
    refine v_iload_n O dX10_goThrough_31 rfl 1 rfl ?_
    refine v_iald O dX10_goThrough_32 sh_60 (h.2 g1).1 ?_
    refine v_ishr O dX10_goThrough_33 ?_
    refine v_iconst O dX10_goThrough_34 kc_1 ?_
    refine v_iand O dX10_goThrough_35 ?_
    refine v_iconst O dX10_goThrough_36 kc_1 ?_
    refine v_icmp_ne (tgt := 77) O dX10_goThrough_37 (by decide) (fun g2 => ?_) (fun g2 => ?_)
    · obtain ⟨w3, hw4⟩ : ∃ y : Int32, y = a1 + 1 := ⟨_, rfl⟩
      refine v_iinc (v := w3) (j := 1) O dX10_goThrough_77 rfl (by rw [hw4]; exact congrArg _ kc_1) (by decide) (lv' := [(1, .int w3), (0, .ref 48)]) rfl ?_
      refine v_goto O dX10_goThrough_80 (tgt := 15) (by decide) ?_
      exact v_loc [1, 0] rfl (e15 w3 X Y (((h.2 g1).2.1 g2) w3 hw4))
    · refine v_aload_n O dX10_goThrough_40 rfl 0 rfl ?_
      refine v_get O dX10_goThrough_41 fo_X10_49 sh_48 rfl rfl ?_
      refine v_iload_n O dX10_goThrough_44 rfl 1 rfl ?_
      refine v_iald O dX10_goThrough_45 sh_62 ((h.2 g1).2.2 g2).1 ?_
      refine v_if_lt (tgt := 57) O dX10_goThrough_46 (by decide) (fun g5 => ?_) (fun g5 => ?_)
      · refine v_aload_n O dX10_goThrough_57 rfl 0 rfl ?_
        refine v_get O dX10_goThrough_58 fo_X10_83 sh_48 rfl rfl ?_
        refine v_aload_n O dX10_goThrough_61 rfl 0 rfl ?_
        refine v_get O dX10_goThrough_62 fo_X10_265 sh_48 rfl rfl ?_
        refine v_iload_n O dX10_goThrough_65 rfl 1 rfl ?_
        refine v_iast O dX10_goThrough_66 sh_72 (((h.2 g1).2.2 g2).2.1 g5).1 ?_
        refine v_aload_n O dX10_goThrough_67 rfl 0 rfl ?_
        refine v_dup O dX10_goThrough_68 rfl ?_
        refine v_get O dX10_goThrough_69 fo_X10_265 sh_48 rfl rfl ?_
        refine v_iconst O dX10_goThrough_72 kc_1 ?_
        refine v_iadd O dX10_goThrough_73 ?_
        refine v_putI O dX10_goThrough_74 fo_X10_265 fp_10_43 sh_48 rfl rfl rfl ?_
        refine v_nmX (fun X6 hX7 => ?_)
        obtain ⟨w8, hw9⟩ : ∃ y : Int32, y = a1 + 1 := ⟨_, rfl⟩
        refine v_iinc (v := w8) (j := 1) O dX10_goThrough_77 rfl (by rw [hw9]; exact congrArg _ kc_1) (by decide) (lv' := [(1, .int w8), (0, .ref 48)]) rfl ?_
        refine v_goto O dX10_goThrough_80 (tgt := 15) (by decide) ?_
        exact v_loc [1, 0] rfl (e15 w8 X6 Y (((((h.2 g1).2.2 g2).2.1 g5).2 X6 hX7) w8 hw9))
      · refine v_aload_n O dX10_goThrough_49 rfl 0 rfl ?_
        refine v_iload_n O dX10_goThrough_50 rfl 1 rfl ?_
        refine v_callV (rm' := { frames := 0, cells := 0, slots := 0, locals := 0 }) (As := [.int a1]) (st := []) O dX10_goThrough_51 ci_X10_isBarred ml_X10_255 mi_X10_isBarred sh_48 rfl ⟨rfl, rfl, (by decide), (by decide)⟩ rfl (Nat.le_of_ble_eq_true rfl) rfl (mX10_isBarred (((h.2 g1).2.2 g2).2.2 g5)) (k_I (fun r10 X11 Y12 h13 => ?_))
        refine v_if_eq (tgt := 77) O dX10_goThrough_54 (by decide) (fun g14 => ?_) (fun g14 => ?_)
        · obtain ⟨w15, hw16⟩ : ∃ y : Int32, y = a1 + 1 := ⟨_, rfl⟩
          refine v_iinc (v := w15) (j := 1) O dX10_goThrough_77 rfl (by rw [hw16]; exact congrArg _ kc_1) (by decide) (lv' := [(1, .int w15), (0, .ref 48)]) rfl ?_
          refine v_goto O dX10_goThrough_80 (tgt := 15) (by decide) ?_
          exact v_loc [1, 0] rfl (e15 w15 X11 Y12 ((h13.1 g14) w15 hw16))
        · refine v_aload_n O dX10_goThrough_57 rfl 0 rfl ?_
          refine v_get O dX10_goThrough_58 fo_X10_83 sh_48 rfl rfl ?_
          refine v_aload_n O dX10_goThrough_61 rfl 0 rfl ?_
          refine v_get O dX10_goThrough_62 fo_X10_265 sh_48 rfl rfl ?_
          refine v_iload_n O dX10_goThrough_65 rfl 1 rfl ?_
          refine v_iast O dX10_goThrough_66 sh_72 (h13.2 g14).1 ?_
          refine v_aload_n O dX10_goThrough_67 rfl 0 rfl ?_
          refine v_dup O dX10_goThrough_68 rfl ?_
          refine v_get O dX10_goThrough_69 fo_X10_265 sh_48 rfl rfl ?_
          refine v_iconst O dX10_goThrough_72 kc_1 ?_
          refine v_iadd O dX10_goThrough_73 ?_
          refine v_putI O dX10_goThrough_74 fo_X10_265 fp_10_43 sh_48 rfl rfl rfl ?_
          refine v_nmX (fun X17 hX18 => ?_)
          obtain ⟨w19, hw20⟩ : ∃ y : Int32, y = a1 + 1 := ⟨_, rfl⟩
          refine v_iinc (v := w19) (j := 1) O dX10_goThrough_77 rfl (by rw [hw20]; exact congrArg _ kc_1) (by decide) (lv' := [(1, .int w19), (0, .ref 48)]) rfl ?_
          refine v_goto O dX10_goThrough_80 (tgt := 15) (by decide) ?_
          exact v_loc [1, 0] rfl (e15 w19 X17 Y12 (((h13.2 g14).2 X17 hX18) w19 hw20))
set_option maxHeartbeats 4000000 in
set_option maxRecDepth 100000 in
theorem kX10_goThrough_85 {Γ : Cxt} {Q : Int32 → XT → YT → Prop} (O : Ok Γ RX10 cX10_goThrough 3 { frames := 4, cells := 0, slots := 0, locals := 94 }) (r : Ret Γ (some .boolean) (qI Q)) {I15 : Int32 → XT → YT → Prop} {I85 : Int32 → XT → YT → Prop} {I193 : Int32 → Int32 → XT → YT → Prop} {I102 : Int32 → Int32 → XT → YT → Prop} (e15 : ∀ (a1 : Int32) (X : XT) (Y : YT), I15 a1 X Y → V Γ 15 [(0, .ref 48), (1, .int a1)] [] X Y) (e85 : ∀ (a1 : Int32) (X : XT) (Y : YT), I85 a1 X Y → V Γ 85 [(0, .ref 48), (1, .int a1)] [] X Y) (e193 : ∀ (a1 : Int32) (a2 : Int32) (X : XT) (Y : YT), I193 a1 a2 X Y → V Γ 193 [(0, .ref 48), (1, .int a1), (2, .int a2)] [] X Y) (e102 : ∀ (a1 : Int32) (a2 : Int32) (X : XT) (Y : YT), I102 a1 a2 X Y → V Γ 102 [(0, .ref 48), (1, .int a1), (2, .int a2)] [] X Y) {a1 : Int32} {X : XT} {Y : YT} (h : BX10_goThrough_85 I15 I85 I193 I102 Q a1 X Y) : V Γ 85 [(0, .ref 48), (1, .int a1)] [] X Y := by
  refine v_iload_n O dX10_goThrough_85 rfl 1 rfl ?_
  refine v_aload_n O dX10_goThrough_86 rfl 0 rfl ?_
  refine v_get O dX10_goThrough_87 fo_X10_265 sh_48 rfl rfl ?_
  refine v_icmp_ge (tgt := 132) O dX10_goThrough_90 (by decide) (fun g1 => ?_) (fun g1 => ?_)
  · refine v_aload_n O dX10_goThrough_132 rfl 0 rfl ?_
    refine v_iconst O dX10_goThrough_133 kc_0 ?_
    refine v_putI O dX10_goThrough_134 fo_X10_278 fp_10_47 sh_48 rfl rfl rfl ?_
    refine v_aload_n O dX10_goThrough_137 rfl 0 rfl ?_
    refine v_lconst O dX10_goThrough_138 (v := 0) (by decide) ?_
    refine v_putL O dX10_goThrough_139 fo_X10_268 fp_10_48 sh_48 rfl ?_
    refine v_aload_n O dX10_goThrough_142 rfl 0 rfl ?_
    refine v_iconst O dX10_goThrough_143 kc_1 ?_
    refine v_aload_n O dX10_goThrough_144 rfl 0 rfl ?_
    refine v_get O dX10_goThrough_145 fo_X10_123 sh_48 rfl rfl ?_
    refine v_ishl O dX10_goThrough_148 ?_
    refine v_iconst O dX10_goThrough_149 kc_1 ?_
    refine v_isub O dX10_goThrough_150 ?_
    refine v_putI O dX10_goThrough_151 fo_X10_272 fp_10_51 sh_48 rfl rfl rfl ?_
    refine v_nmX (fun X2 hX3 => ?_)
    refine v_aload_n O dX10_goThrough_154 rfl 0 rfl ?_
    refine v_iconst O dX10_goThrough_155 kc_0 ?_
    refine v_putI O dX10_goThrough_156 fo_X10_275 fp_10_52 sh_48 rfl rfl rfl ?_
    refine v_aload_n O dX10_goThrough_159 rfl 0 rfl ?_
    refine v_iconst O dX10_goThrough_160 kc_m1 ?_
    refine v_putI O dX10_goThrough_161 fo_X10_281 fp_10_55 sh_48 rfl rfl rfl ?_
    refine v_aload_n O dX10_goThrough_164 rfl 0 rfl ?_
    refine v_get O dX10_goThrough_165 fo_X10_265 sh_48 rfl rfl ?_
    refine v_if_ne (tgt := 182) O dX10_goThrough_168 (by decide) (fun g4 => ?_) (fun g4 => ?_)
    · refine v_iconst O dX10_goThrough_182 kc_0 ?_
      refine v_istore_n (lv' := [(1, .int 0), (0, .ref 48)]) O dX10_goThrough_183 rfl (by decide) rfl ?_
      refine v_iconst O dX10_goThrough_184 kc_0 ?_
      refine v_istore_n (lv' := [(2, .int 0), (1, .int 0), (0, .ref 48)]) O dX10_goThrough_185 rfl (by decide) rfl ?_
      refine v_aload_n O dX10_goThrough_186 rfl 2 rfl ?_
      refine v_get O dX10_goThrough_187 fo_X10_86 sh_48 rfl rfl ?_
      refine v_iconst O dX10_goThrough_190 kc_0 ?_
      refine v_iconst O dX10_goThrough_191 kc_m1 ?_
      refine v_iast O dX10_goThrough_192 sh_73 (((h.1 g1) X2 hX3).1 g4).1 ?_
      refine v_nmX (fun X5 hX6 => ?_)
      exact v_loc [2, 1, 0] rfl (e193 0 0 X5 (sY Y 48 48 (0 : Int64)) ((((h.1 g1) X2 hX3).1 g4).2 X5 hX6))
    · refine v_aload_n O dX10_goThrough_171 rfl 0 rfl ?_
      refine v_iconst O dX10_goThrough_172 kc_0 ?_
      refine v_putI O dX10_goThrough_173 fo_X10_272 fp_10_51 sh_48 rfl rfl rfl ?_
      refine v_nmX (fun X7 hX8 => ?_)
      refine v_aload_n O dX10_goThrough_176 rfl 0 rfl ?_
      refine v_callV (rm' := { frames := 0, cells := 0, slots := 0, locals := 0 }) (As := []) (st := []) O dX10_goThrough_177 ci_X10_takeReading ml_X10_290 mi_X10_takeReading sh_48 rfl ⟨rfl, rfl, (by decide), (by decide)⟩ rfl (Nat.le_of_ble_eq_true rfl) rfl (mX10_takeReading ((((h.1 g1) X2 hX3).2 g4) X7 hX8)) (k_V (fun X10 Y11 h12 => ?_))
      refine v_iconst O dX10_goThrough_180 kc_1 ?_
      exact v_zret O r dX10_goThrough_181 (by decide) ⟨_, rfl, h12⟩
  · refine v_aload_n O dX10_goThrough_93 rfl 0 rfl ?_
    refine v_get O dX10_goThrough_94 fo_X10_92 sh_48 rfl rfl ?_
    refine v_iload_n O dX10_goThrough_97 rfl 1 rfl ?_
    refine v_iconst O dX10_goThrough_98 kc_0 ?_
    refine v_iast O dX10_goThrough_99 sh_75 (h.2 g1).1 ?_
    refine v_iconst O dX10_goThrough_100 kc_0 ?_
    refine v_istore_n (lv' := [(2, .int 0), (0, .ref 48), (1, .int a1)]) O dX10_goThrough_101 rfl (by decide) rfl ?_
    exact v_loc [1, 2, 0] rfl (e102 a1 0 (sX X 75 a1.toNatClampNeg 0) Y (h.2 g1).2)
set_option maxHeartbeats 4000000 in
set_option maxRecDepth 100000 in
theorem kX10_goThrough_193 {Γ : Cxt} {Q : Int32 → XT → YT → Prop} (O : Ok Γ RX10 cX10_goThrough 3 { frames := 4, cells := 0, slots := 0, locals := 94 }) (r : Ret Γ (some .boolean) (qI Q)) {I15 : Int32 → XT → YT → Prop} {I85 : Int32 → XT → YT → Prop} {I193 : Int32 → Int32 → XT → YT → Prop} {I102 : Int32 → Int32 → XT → YT → Prop} (e15 : ∀ (a1 : Int32) (X : XT) (Y : YT), I15 a1 X Y → V Γ 15 [(0, .ref 48), (1, .int a1)] [] X Y) (e85 : ∀ (a1 : Int32) (X : XT) (Y : YT), I85 a1 X Y → V Γ 85 [(0, .ref 48), (1, .int a1)] [] X Y) (e193 : ∀ (a1 : Int32) (a2 : Int32) (X : XT) (Y : YT), I193 a1 a2 X Y → V Γ 193 [(0, .ref 48), (1, .int a1), (2, .int a2)] [] X Y) (e102 : ∀ (a1 : Int32) (a2 : Int32) (X : XT) (Y : YT), I102 a1 a2 X Y → V Γ 102 [(0, .ref 48), (1, .int a1), (2, .int a2)] [] X Y) {a1 : Int32} {a2 : Int32} {X : XT} {Y : YT} (h : BX10_goThrough_193 I15 I85 I193 I102 Q a1 a2 X Y) : V Γ 193 [(0, .ref 48), (1, .int a1), (2, .int a2)] [] X Y := by
  refine v_iload_n O dX10_goThrough_193 rfl 2 rfl ?_
  refine v_if_lt (tgt := 294) O dX10_goThrough_194 (by decide) (fun g1 => ?_) (fun g1 => ?_)
  · refine v_iconst O dX10_goThrough_294 kc_1 ?_
    exact v_zret O r dX10_goThrough_295 (by decide) ⟨_, rfl, (h.1 g1)⟩
  · refine v_aload_n O dX10_goThrough_197 rfl 0 rfl ?_
    refine v_get O dX10_goThrough_198 fo_X10_86 sh_48 rfl rfl ?_
    refine v_iload_n O dX10_goThrough_201 rfl 2 rfl ?_
    refine v_dup2 O dX10_goThrough_202 rfl rfl ?_
    refine v_iald O dX10_goThrough_203 sh_73 (h.2 g1).1 ?_
    refine v_iconst O dX10_goThrough_204 kc_1 ?_
    refine v_iadd O dX10_goThrough_205 ?_
    refine v_iast O dX10_goThrough_206 sh_73 (h.2 g1).2.1 ?_
    refine v_nmX (fun X2 hX3 => ?_)
    refine v_aload_n O dX10_goThrough_207 rfl 0 rfl ?_
    refine v_get O dX10_goThrough_208 fo_X10_86 sh_48 rfl rfl ?_
    refine v_iload_n O dX10_goThrough_211 rfl 2 rfl ?_
    refine v_iald O dX10_goThrough_212 sh_73 ((h.2 g1).2.2 X2 hX3).1 ?_
    refine v_aload_n O dX10_goThrough_213 rfl 0 rfl ?_
    refine v_get O dX10_goThrough_214 fo_X10_123 sh_48 rfl rfl ?_
    refine v_icmp_lt (tgt := 226) O dX10_goThrough_217 (by decide) (fun g4 => ?_) (fun g4 => ?_)
    · refine v_iload_n O dX10_goThrough_226 rfl 1 rfl ?_
      refine v_sipush O dX10_goThrough_227 ks_3000 ?_
      refine v_icmp_ne (tgt := 235) O dX10_goThrough_230 (by decide) (fun g5 => ?_) (fun g5 => ?_)
      · obtain ⟨w6, hw7⟩ : ∃ y : Int32, y = a1 + 1 := ⟨_, rfl⟩
        refine v_iinc (v := w6) (j := 1) O dX10_goThrough_235 rfl (by rw [hw7]; exact congrArg _ kc_1) (by decide) (lv' := [(1, .int w6), (0, .ref 48), (2, .int a2)]) rfl ?_
        refine v_aload_n O dX10_goThrough_238 rfl 1 rfl ?_
        refine v_iload_n O dX10_goThrough_239 rfl 2 rfl ?_
        refine v_aload_n O dX10_goThrough_240 rfl 1 rfl ?_
        refine v_get O dX10_goThrough_241 fo_X10_86 sh_48 rfl rfl ?_
        refine v_iload_n O dX10_goThrough_244 rfl 2 rfl ?_
        refine v_iald O dX10_goThrough_245 sh_73 (((((h.2 g1).2.2 X2 hX3).2.1 g4).1 g5) w6 hw7).1 ?_
        refine v_callV (rm' := { frames := 3, cells := 0, slots := 0, locals := 68 }) (As := [.int a2, .int (X2 73 a2.toNatClampNeg)]) (st := []) O dX10_goThrough_246 ci_X10_mayGive ml_X10_293 mi_X10_mayGive sh_48 rfl ⟨rfl, rfl, (by decide), (by decide)⟩ rfl (Nat.le_of_ble_eq_true rfl) rfl (mX10_mayGive (((((h.2 g1).2.2 X2 hX3).2.1 g4).1 g5) w6 hw7).2) (k_I (fun r8 X9 Y10 h11 => ?_))
        refine v_if_eq (tgt := 193) O dX10_goThrough_249 (by decide) (fun g12 => ?_) (fun g12 => ?_)
        · exact v_loc [1, 0, 2] rfl (e193 w6 a2 X9 Y10 (h11.1 g12))
        · refine v_iload_n O dX10_goThrough_252 rfl 2 rfl ?_
          refine v_iconst O dX10_goThrough_253 kc_1 ?_
          refine v_iadd O dX10_goThrough_254 ?_
          refine v_aload_n O dX10_goThrough_255 rfl 1 rfl ?_
          refine v_get O dX10_goThrough_256 fo_X10_265 sh_48 rfl rfl ?_
          refine v_icmp_ne (tgt := 281) O dX10_goThrough_259 (by decide) (fun g13 => ?_) (fun g13 => ?_)
          · obtain ⟨w14, hw15⟩ : ∃ y : Int32, y = a2 + 1 := ⟨_, rfl⟩
            refine v_iinc (v := w14) (j := 2) O dX10_goThrough_281 rfl (by rw [hw15]; exact congrArg _ kc_1) (by decide) (lv' := [(2, .int w14), (1, .int w6), (0, .ref 48)]) rfl ?_
            refine v_aload_n O dX10_goThrough_284 rfl 2 rfl ?_
            refine v_get O dX10_goThrough_285 fo_X10_86 sh_48 rfl rfl ?_
            refine v_iload_n O dX10_goThrough_288 rfl 0 rfl ?_
            refine v_iconst O dX10_goThrough_289 kc_m1 ?_
            refine v_iast O dX10_goThrough_290 sh_73 (((h11.2 g12).1 g13) w14 hw15).1 ?_
            refine v_goto O dX10_goThrough_291 (tgt := 193) (by decide) ?_
            exact v_loc [2, 1, 0] rfl (e193 w6 w14 (sX X9 73 w14.toNatClampNeg (-1)) Y10 (((h11.2 g12).1 g13) w14 hw15).2)
          · refine v_aload_n O dX10_goThrough_262 rfl 1 rfl ?_
            refine v_callV (rm' := { frames := 0, cells := 0, slots := 0, locals := 0 }) (As := []) (st := []) O dX10_goThrough_263 ci_X10_takeReading ml_X10_290 mi_X10_takeReading sh_48 rfl ⟨rfl, rfl, (by decide), (by decide)⟩ rfl (Nat.le_of_ble_eq_true rfl) rfl (mX10_takeReading ((h11.2 g12).2 g13)) (k_V (fun X17 Y18 h19 => ?_))
            refine v_aload_n O dX10_goThrough_266 rfl 1 rfl ?_
            refine v_get O dX10_goThrough_267 fo_X10_278 sh_48 rfl rfl ?_
            refine v_iconst O dX10_goThrough_270 kc_1 ?_
            refine v_isub O dX10_goThrough_271 ?_
            refine v_aload_n O dX10_goThrough_272 rfl 1 rfl ?_
            refine v_get O dX10_goThrough_273 fo_X10_249 sh_48 rfl rfl ?_
            refine v_icmp_ne (tgt := 193) O dX10_goThrough_276 (by decide) (fun g20 => ?_) (fun g20 => ?_)
            · exact v_loc [1, 0, 2] rfl (e193 w6 a2 X17 Y18 (h19.1 g20))
            · refine v_iconst O dX10_goThrough_279 kc_1 ?_
              exact v_zret O r dX10_goThrough_280 (by decide) ⟨_, rfl, (h19.2 g20)⟩
      · refine v_iconst O dX10_goThrough_233 kc_0 ?_
        exact v_zret O r dX10_goThrough_234 (by decide) ⟨_, rfl, ((((h.2 g1).2.2 X2 hX3).2.1 g4).2 g5)⟩
    · obtain ⟨w21, hw22⟩ : ∃ y : Int32, y = a2 + (-1) := ⟨_, rfl⟩
      refine v_iinc (v := w21) (j := 2) O dX10_goThrough_220 rfl (by rw [hw22]; exact congrArg _ kc_m1) (by decide) (lv' := [(2, .int w21), (0, .ref 48), (1, .int a1)]) rfl ?_
      refine v_goto O dX10_goThrough_223 (tgt := 193) (by decide) ?_
      exact v_loc [1, 2, 0] rfl (e193 a1 w21 X2 Y ((((h.2 g1).2.2 X2 hX3).2.2 g4) w21 hw22))
set_option maxHeartbeats 4000000 in
set_option maxRecDepth 100000 in
theorem kX10_goThrough_102 {Γ : Cxt} {Q : Int32 → XT → YT → Prop} (O : Ok Γ RX10 cX10_goThrough 3 { frames := 4, cells := 0, slots := 0, locals := 94 }) (r : Ret Γ (some .boolean) (qI Q)) {I15 : Int32 → XT → YT → Prop} {I85 : Int32 → XT → YT → Prop} {I193 : Int32 → Int32 → XT → YT → Prop} {I102 : Int32 → Int32 → XT → YT → Prop} (e15 : ∀ (a1 : Int32) (X : XT) (Y : YT), I15 a1 X Y → V Γ 15 [(0, .ref 48), (1, .int a1)] [] X Y) (e85 : ∀ (a1 : Int32) (X : XT) (Y : YT), I85 a1 X Y → V Γ 85 [(0, .ref 48), (1, .int a1)] [] X Y) (e193 : ∀ (a1 : Int32) (a2 : Int32) (X : XT) (Y : YT), I193 a1 a2 X Y → V Γ 193 [(0, .ref 48), (1, .int a1), (2, .int a2)] [] X Y) (e102 : ∀ (a1 : Int32) (a2 : Int32) (X : XT) (Y : YT), I102 a1 a2 X Y → V Γ 102 [(0, .ref 48), (1, .int a1), (2, .int a2)] [] X Y) {a1 : Int32} {a2 : Int32} {X : XT} {Y : YT} (h : BX10_goThrough_102 I15 I85 I193 I102 Q a1 a2 X Y) : V Γ 102 [(0, .ref 48), (1, .int a1), (2, .int a2)] [] X Y := by
  refine v_iload_n O dX10_goThrough_102 rfl 2 rfl ?_
  refine v_bipush O dX10_goThrough_103 kb_10 ?_
  refine v_icmp_ge (tgt := 126) O dX10_goThrough_105 (by decide) (fun g1 => ?_) (fun g1 => ?_)
  · obtain ⟨w2, hw3⟩ : ∃ y : Int32, y = a1 + 1 := ⟨_, rfl⟩
    refine v_iinc (v := w2) (j := 1) O dX10_goThrough_126 rfl (by rw [hw3]; exact congrArg _ kc_1) (by decide) (lv' := [(1, .int w2), (0, .ref 48), (2, .int a2)]) rfl ?_
    refine v_goto O dX10_goThrough_129 (tgt := 85) (by decide) ?_
    exact v_loc [1, 0] rfl (e85 w2 X Y ((h.1 g1) w2 hw3))
  · refine v_aload_n O dX10_goThrough_108 rfl 0 rfl ?_
    refine v_get O dX10_goThrough_109 fo_X10_95 sh_48 rfl rfl ?_
    refine v_bipush O dX10_goThrough_112 kb_10 ?_
    refine v_iload_n O dX10_goThrough_114 rfl 1 rfl ?_
    refine v_imul O dX10_goThrough_115 ?_
    refine v_iload_n O dX10_goThrough_116 rfl 2 rfl ?_
    refine v_iadd O dX10_goThrough_117 ?_
    refine v_lconst O dX10_goThrough_118 (v := 0) (by decide) ?_
    refine v_last O dX10_goThrough_119 sh_76 (h.2 g1).1 ?_
    refine v_nmY (fun Y4 hY5 => ?_)
    obtain ⟨w6, hw7⟩ : ∃ y : Int32, y = a2 + 1 := ⟨_, rfl⟩
    refine v_iinc (v := w6) (j := 2) O dX10_goThrough_120 rfl (by rw [hw7]; exact congrArg _ kc_1) (by decide) (lv' := [(2, .int w6), (0, .ref 48), (1, .int a1)]) rfl ?_
    refine v_goto O dX10_goThrough_123 (tgt := 102) (by decide) ?_
    exact v_loc [1, 2, 0] rfl (e102 a1 w6 X Y4 (((h.2 g1).2 Y4 hY5) w6 hw7))
set_option maxHeartbeats 4000000 in
set_option maxRecDepth 100000 in
theorem kX10_goThrough_s {Γ : Cxt} {Q : Int32 → XT → YT → Prop} (O : Ok Γ RX10 cX10_goThrough 3 { frames := 4, cells := 0, slots := 0, locals := 94 }) (r : Ret Γ (some .boolean) (qI Q)) {I15 : Int32 → XT → YT → Prop} {I85 : Int32 → XT → YT → Prop} {I193 : Int32 → Int32 → XT → YT → Prop} {I102 : Int32 → Int32 → XT → YT → Prop} (e15 : ∀ (a1 : Int32) (X : XT) (Y : YT), I15 a1 X Y → V Γ 15 [(0, .ref 48), (1, .int a1)] [] X Y) (e85 : ∀ (a1 : Int32) (X : XT) (Y : YT), I85 a1 X Y → V Γ 85 [(0, .ref 48), (1, .int a1)] [] X Y) (e193 : ∀ (a1 : Int32) (a2 : Int32) (X : XT) (Y : YT), I193 a1 a2 X Y → V Γ 193 [(0, .ref 48), (1, .int a1), (2, .int a2)] [] X Y) (e102 : ∀ (a1 : Int32) (a2 : Int32) (X : XT) (Y : YT), I102 a1 a2 X Y → V Γ 102 [(0, .ref 48), (1, .int a1), (2, .int a2)] [] X Y) {X : XT} {Y : YT} (h : BX10_goThrough_s I15 I85 I193 I102 Q X Y) : V Γ 0 [(0, .ref 48)] [] X Y := by
  refine v_aload_n O dX10_goThrough_0 rfl 0 rfl ?_
  refine v_callV (rm' := { frames := 0, cells := 0, slots := 0, locals := 0 }) (As := []) (st := []) O dX10_goThrough_1 ci_X10_findOpen ml_X10_284 mi_X10_findOpen sh_48 rfl ⟨rfl, rfl, (by decide), (by decide)⟩ rfl (Nat.le_of_ble_eq_true rfl) rfl (mX10_findOpen h) (k_V (fun X2 Y3 h4 => ?_))
  refine v_aload_n O dX10_goThrough_4 rfl 0 rfl ?_
  refine v_callV (rm' := { frames := 1, cells := 0, slots := 0, locals := 23 }) (As := []) (st := []) O dX10_goThrough_5 ci_X10_findShown ml_X10_287 mi_X10_findShown sh_48 rfl ⟨rfl, rfl, (by decide), (by decide)⟩ rfl (Nat.le_of_ble_eq_true rfl) rfl (mX10_findShown h4) (k_V (fun X6 Y7 h8 => ?_))
  refine v_aload_n O dX10_goThrough_8 rfl 0 rfl ?_
  refine v_iconst O dX10_goThrough_9 kc_0 ?_
  refine v_putI O dX10_goThrough_10 fo_X10_265 fp_10_43 sh_48 rfl rfl rfl ?_
  refine v_iconst O dX10_goThrough_13 kc_0 ?_
  refine v_istore_n (lv' := [(1, .int 0), (0, .ref 48)]) O dX10_goThrough_14 rfl (by decide) rfl ?_
  exact v_loc [1, 0] rfl (e15 0 (sX X6 48 43 0) Y7 h8)
set_option maxRecDepth 100000 in
theorem mX10_goThrough {Γ : Cxt} {X : XT} {Y : YT} {Q : Int32 → XT → YT → Prop} (h : PX10_goThrough X Y Q) : MT Γ yX10_goThrough (.code yX10_goThrough cX10_goThrough 3 (some .boolean) :: wl) { frames := 4, cells := 0, slots := 0, locals := 94 } [.ref 48] X Y (qI Q) :=
  mt_of (by decide) (Nat.le_of_ble_eq_true rfl) (fun Γ _ O r => kX10_goThrough_s O r (fun _ _ _ g => g) (fun _ _ _ g => g) (fun _ _ _ _ g => g) (fun _ _ _ _ g => g) (h (fun a1 X Y => V Γ 15 [(0, .ref 48), (1, .int a1)] [] X Y) (fun a1 X Y => V Γ 85 [(0, .ref 48), (1, .int a1)] [] X Y) (fun a1 a2 X Y => V Γ 193 [(0, .ref 48), (1, .int a1), (2, .int a2)] [] X Y) (fun a1 a2 X Y => V Γ 102 [(0, .ref 48), (1, .int a1), (2, .int a2)] [] X Y) (fun _ _ _ g => kX10_goThrough_15 O r (fun _ _ _ g => g) (fun _ _ _ g => g) (fun _ _ _ _ g => g) (fun _ _ _ _ g => g) g) (fun _ _ _ g => kX10_goThrough_85 O r (fun _ _ _ g => g) (fun _ _ _ g => g) (fun _ _ _ _ g => g) (fun _ _ _ _ g => g) g) (fun _ _ _ _ g => kX10_goThrough_193 O r (fun _ _ _ g => g) (fun _ _ _ g => g) (fun _ _ _ _ g => g) (fun _ _ _ _ g => g) g) (fun _ _ _ _ g => kX10_goThrough_102 O r (fun _ _ _ g => g) (fun _ _ _ g => g) (fun _ _ _ _ g => g) (fun _ _ _ _ g => g) g)))
theorem dX10_posOf_0 : decode cX10_posOf 0 = .ok (.iconst 0, 1) := by decide +kernel
theorem dX10_posOf_1 : decode cX10_posOf 1 = .ok (.istore_n 2, 1) := by decide +kernel
theorem dX10_posOf_2 : decode cX10_posOf 2 = .ok (.iload_n 2, 1) := by decide +kernel
theorem dX10_posOf_3 : decode cX10_posOf 3 = .ok (.aload_n 0, 1) := by decide +kernel
theorem dX10_posOf_4 : decode cX10_posOf 4 = .ok (.getfield 265, 3) := by decide +kernel
theorem dX10_posOf_7 : decode cX10_posOf 7 = .ok (.if_icmp .ge 26, 3) := by decide +kernel
theorem dX10_posOf_10 : decode cX10_posOf 10 = .ok (.aload_n 0, 1) := by decide +kernel
theorem dX10_posOf_11 : decode cX10_posOf 11 = .ok (.getfield 52, 3) := by decide +kernel
theorem dX10_posOf_14 : decode cX10_posOf 14 = .ok (.aload_n 0, 1) := by decide +kernel
theorem dX10_posOf_15 : decode cX10_posOf 15 = .ok (.getfield 83, 3) := by decide +kernel
theorem dX10_posOf_18 : decode cX10_posOf 18 = .ok (.iload_n 2, 1) := by decide +kernel
theorem dX10_posOf_19 : decode cX10_posOf 19 = .ok (.iaload, 1) := by decide +kernel
theorem dX10_posOf_20 : decode cX10_posOf 20 = .ok (.iaload, 1) := by decide +kernel
theorem dX10_posOf_21 : decode cX10_posOf 21 = .ok (.iload_n 1, 1) := by decide +kernel
theorem dX10_posOf_22 : decode cX10_posOf 22 = .ok (.if_icmp .ne 5, 3) := by decide +kernel
theorem dX10_posOf_25 : decode cX10_posOf 25 = .ok (.iload_n 2, 1) := by decide +kernel
theorem dX10_posOf_26 : decode cX10_posOf 26 = .ok (.ireturn, 1) := by decide +kernel
theorem dX10_posOf_27 : decode cX10_posOf 27 = .ok (.iinc 2 1, 3) := by decide +kernel
theorem dX10_posOf_30 : decode cX10_posOf 30 = .ok (.goto (-28), 3) := by decide +kernel
theorem dX10_posOf_33 : decode cX10_posOf 33 = .ok (.iconst (-1), 1) := by decide +kernel
theorem dX10_posOf_34 : decode cX10_posOf 34 = .ok (.ireturn, 1) := by decide +kernel
def BX10_posOf_2 (I2 : Int32 → Int32 → XT → YT → Prop) (Q : Int32 → XT → YT → Prop) (a1 : Int32) (a2 : Int32) (X : XT) (Y : YT) : Prop :=
  (((X 48 43) ≤ a2 → Q (-1) X Y) ∧ (¬ (X 48 43) ≤ a2 → vp_in a2 20 ∧ vp_in (X 72 a2.toNatClampNeg) 32 ∧ ((¬ (X 63 (X 72 a2.toNatClampNeg).toNatClampNeg) = a1 → ∀ w3 : Int32, w3 = a2 + 1 → I2 a1 w3 X Y) ∧ ((X 63 (X 72 a2.toNatClampNeg).toNatClampNeg) = a1 → Q a2 X Y))))
def BX10_posOf_s (I2 : Int32 → Int32 → XT → YT → Prop) (Q : Int32 → XT → YT → Prop) (p0 : Int32) (X : XT) (Y : YT) : Prop :=
  I2 p0 0 X Y
def PX10_posOf (p0 : Int32) (X : XT) (Y : YT) (Q : Int32 → XT → YT → Prop) : Prop := ∀ (I2 : Int32 → Int32 → XT → YT → Prop), (∀ (a1 : Int32) (a2 : Int32) (X : XT) (Y : YT), BX10_posOf_2 I2 Q a1 a2 X Y → I2 a1 a2 X Y) → BX10_posOf_s I2 Q p0 X Y
set_option maxHeartbeats 4000000 in
set_option maxRecDepth 100000 in
theorem kX10_posOf_2 {Γ : Cxt} {Q : Int32 → XT → YT → Prop} (O : Ok Γ RX10 cX10_posOf 3 { frames := 0, cells := 0, slots := 0, locals := 0 }) (r : Ret Γ (some .int) (qI Q)) {I2 : Int32 → Int32 → XT → YT → Prop} (e2 : ∀ (a1 : Int32) (a2 : Int32) (X : XT) (Y : YT), I2 a1 a2 X Y → V Γ 2 [(0, .ref 48), (1, .int a1), (2, .int a2)] [] X Y) {a1 : Int32} {a2 : Int32} {X : XT} {Y : YT} (h : BX10_posOf_2 I2 Q a1 a2 X Y) : V Γ 2 [(0, .ref 48), (1, .int a1), (2, .int a2)] [] X Y := by
  refine v_iload_n O dX10_posOf_2 rfl 2 rfl ?_
  refine v_aload_n O dX10_posOf_3 rfl 0 rfl ?_
  refine v_get O dX10_posOf_4 fo_X10_265 sh_48 rfl rfl ?_
  refine v_icmp_ge (tgt := 33) O dX10_posOf_7 (by decide) (fun g1 => ?_) (fun g1 => ?_)
  · refine v_iconst O dX10_posOf_33 kc_m1 ?_
    exact v_iret O r dX10_posOf_34 ⟨_, rfl, (h.1 g1)⟩
  · refine v_aload_n O dX10_posOf_10 rfl 0 rfl ?_
    refine v_get O dX10_posOf_11 fo_X10_52 sh_48 rfl rfl ?_
    refine v_aload_n O dX10_posOf_14 rfl 0 rfl ?_
    refine v_get O dX10_posOf_15 fo_X10_83 sh_48 rfl rfl ?_
    refine v_iload_n O dX10_posOf_18 rfl 2 rfl ?_
    refine v_iald O dX10_posOf_19 sh_72 (h.2 g1).1 ?_
    refine v_iald O dX10_posOf_20 sh_63 (h.2 g1).2.1 ?_
    refine v_iload_n O dX10_posOf_21 rfl 1 rfl ?_
    refine v_icmp_ne (tgt := 27) O dX10_posOf_22 (by decide) (fun g2 => ?_) (fun g2 => ?_)
    · obtain ⟨w3, hw4⟩ : ∃ y : Int32, y = a2 + 1 := ⟨_, rfl⟩
      refine v_iinc (v := w3) (j := 2) O dX10_posOf_27 rfl (by rw [hw4]; exact congrArg _ kc_1) (by decide) (lv' := [(2, .int w3), (0, .ref 48), (1, .int a1)]) rfl ?_
      refine v_goto O dX10_posOf_30 (tgt := 2) (by decide) ?_
      exact v_loc [1, 2, 0] rfl (e2 a1 w3 X Y (((h.2 g1).2.2.1 g2) w3 hw4))
    · refine v_iload_n O dX10_posOf_25 rfl 2 rfl ?_
      exact v_iret O r dX10_posOf_26 ⟨_, rfl, ((h.2 g1).2.2.2 g2)⟩
set_option maxHeartbeats 4000000 in
set_option maxRecDepth 100000 in
theorem kX10_posOf_s {Γ : Cxt} {Q : Int32 → XT → YT → Prop} (O : Ok Γ RX10 cX10_posOf 3 { frames := 0, cells := 0, slots := 0, locals := 0 }) (r : Ret Γ (some .int) (qI Q)) {I2 : Int32 → Int32 → XT → YT → Prop} (e2 : ∀ (a1 : Int32) (a2 : Int32) (X : XT) (Y : YT), I2 a1 a2 X Y → V Γ 2 [(0, .ref 48), (1, .int a1), (2, .int a2)] [] X Y) {p0 : Int32} {X : XT} {Y : YT} (h : BX10_posOf_s I2 Q p0 X Y) : V Γ 0 [(0, .ref 48), (1, .int p0)] [] X Y := by
  refine v_iconst O dX10_posOf_0 kc_0 ?_
  refine v_istore_n (lv' := [(2, .int 0), (0, .ref 48), (1, .int p0)]) O dX10_posOf_1 rfl (by decide) rfl ?_
  exact v_loc [1, 2, 0] rfl (e2 p0 0 X Y h)
set_option maxRecDepth 100000 in
theorem mX10_posOf {Γ : Cxt} {p0 : Int32} {X : XT} {Y : YT} {Q : Int32 → XT → YT → Prop} (h : PX10_posOf p0 X Y Q) : MT Γ yX10_posOf (.code yX10_posOf cX10_posOf 3 (some .int) :: wl) { frames := 0, cells := 0, slots := 0, locals := 0 } [.ref 48, .int p0] X Y (qI Q) :=
  mt_of (by decide) (Nat.le_of_ble_eq_true rfl) (fun Γ _ O r => kX10_posOf_s O r (fun _ _ _ _ g => g) (h (fun a1 a2 X Y => V Γ 2 [(0, .ref 48), (1, .int a1), (2, .int a2)] [] X Y) (fun _ _ _ _ g => kX10_posOf_2 O r (fun _ _ _ _ g => g) g)))
theorem dX10_readings_0 : decode cX10_readings 0 = .ok (.aload_n 0, 1) := by decide +kernel
theorem dX10_readings_1 : decode cX10_readings 1 = .ok (.invokevirtual 296, 3) := by decide +kernel
theorem dX10_readings_4 : decode cX10_readings 4 = .ok (.aload_n 0, 1) := by decide +kernel
theorem dX10_readings_5 : decode cX10_readings 5 = .ok (.invokevirtual 299, 3) := by decide +kernel
theorem dX10_readings_8 : decode cX10_readings 8 = .ok (.ifCond .eq 10, 3) := by decide +kernel
theorem dX10_readings_11 : decode cX10_readings 11 = .ok (.aload_n 0, 1) := by decide +kernel
theorem dX10_readings_12 : decode cX10_readings 12 = .ok (.getfield 278, 3) := by decide +kernel
theorem dX10_readings_15 : decode cX10_readings 15 = .ok (.goto 6, 3) := by decide +kernel
theorem dX10_readings_18 : decode cX10_readings 18 = .ok (.sipush (-1005), 3) := by decide +kernel
theorem dX10_readings_21 : decode cX10_readings 21 = .ok (.ireturn, 1) := by decide +kernel
def BX10_readings_s (Q : Int32 → XT → YT → Prop) (X : XT) (Y : YT) : Prop :=
  PX10_begin X Y (fun X2 Y3 => PX10_goThrough X2 Y3 (fun r5 X6 Y7 => ((r5 = 0 → Q (-1005) X6 Y7) ∧ (¬ r5 = 0 → Q (X6 48 47) X6 Y7))))
def PX10_readings (X : XT) (Y : YT) (Q : Int32 → XT → YT → Prop) : Prop :=  BX10_readings_s Q X Y
set_option maxHeartbeats 4000000 in
set_option maxRecDepth 100000 in
theorem kX10_readings_s {Γ : Cxt} {Q : Int32 → XT → YT → Prop} (O : Ok Γ RX10 cX10_readings 1 { frames := 5, cells := 0, slots := 0, locals := 116 }) (r : Ret Γ (some .int) (qI Q)) {X : XT} {Y : YT} (h : BX10_readings_s Q X Y) : V Γ 0 [(0, .ref 48)] [] X Y := by
  refine v_aload_n O dX10_readings_0 rfl 0 rfl ?_
  refine v_callV (rm' := { frames := 0, cells := 0, slots := 0, locals := 0 }) (As := []) (st := []) O dX10_readings_1 ci_X10_begin ml_X10_296 mi_X10_begin sh_48 rfl ⟨rfl, rfl, (by decide), (by decide)⟩ rfl (Nat.le_of_ble_eq_true rfl) rfl (mX10_begin h) (k_V (fun X2 Y3 h4 => ?_))
  refine v_aload_n O dX10_readings_4 rfl 0 rfl ?_
  refine v_callV (rm' := { frames := 4, cells := 0, slots := 0, locals := 94 }) (As := []) (st := []) O dX10_readings_5 ci_X10_goThrough ml_X10_299 mi_X10_goThrough sh_48 rfl ⟨rfl, rfl, (by decide), (by decide)⟩ rfl (Nat.le_of_ble_eq_true rfl) rfl (mX10_goThrough h4) (k_I (fun r5 X6 Y7 h8 => ?_))
  refine v_if_eq (tgt := 18) O dX10_readings_8 (by decide) (fun g9 => ?_) (fun g9 => ?_)
  · refine v_sipush O dX10_readings_18 ks_m1005 ?_
    exact v_iret O r dX10_readings_21 ⟨_, rfl, (h8.1 g9)⟩
  · refine v_aload_n O dX10_readings_11 rfl 0 rfl ?_
    refine v_get O dX10_readings_12 fo_X10_278 sh_48 rfl rfl ?_
    refine v_goto O dX10_readings_15 (tgt := 21) (by decide) ?_
    exact v_iret O r dX10_readings_21 ⟨_, rfl, (h8.2 g9)⟩
set_option maxRecDepth 100000 in
theorem mX10_readings {Γ : Cxt} {X : XT} {Y : YT} {Q : Int32 → XT → YT → Prop} (h : PX10_readings X Y Q) : MT Γ yX10_readings (.code yX10_readings cX10_readings 1 (some .int) :: wl) { frames := 5, cells := 0, slots := 0, locals := 116 } [.ref 48] X Y (qI Q) :=
  mt_of (by decide) (Nat.le_of_ble_eq_true rfl) (fun Γ _ O r => kX10_readings_s O r  (h ))
theorem dX10_reading_0 : decode cX10_reading 0 = .ok (.aload_n 0, 1) := by decide +kernel
theorem dX10_reading_1 : decode cX10_reading 1 = .ok (.iload_n 2, 1) := by decide +kernel
theorem dX10_reading_2 : decode cX10_reading 2 = .ok (.invokevirtual 231, 3) := by decide +kernel
theorem dX10_reading_5 : decode cX10_reading 5 = .ok (.ifCond .eq 7, 3) := by decide +kernel
theorem dX10_reading_8 : decode cX10_reading 8 = .ok (.sipush (-1001), 3) := by decide +kernel
theorem dX10_reading_11 : decode cX10_reading 11 = .ok (.ireturn, 1) := by decide +kernel
theorem dX10_reading_12 : decode cX10_reading 12 = .ok (.iload_n 1, 1) := by decide +kernel
theorem dX10_reading_13 : decode cX10_reading 13 = .ok (.ifCond .ge 7, 3) := by decide +kernel
theorem dX10_reading_16 : decode cX10_reading 16 = .ok (.sipush (-1002), 3) := by decide +kernel
theorem dX10_reading_19 : decode cX10_reading 19 = .ok (.ireturn, 1) := by decide +kernel
theorem dX10_reading_20 : decode cX10_reading 20 = .ok (.aload_n 0, 1) := by decide +kernel
theorem dX10_reading_21 : decode cX10_reading 21 = .ok (.invokevirtual 296, 3) := by decide +kernel
theorem dX10_reading_24 : decode cX10_reading 24 = .ok (.aload_n 0, 1) := by decide +kernel
theorem dX10_reading_25 : decode cX10_reading 25 = .ok (.iload_n 1, 1) := by decide +kernel
theorem dX10_reading_26 : decode cX10_reading 26 = .ok (.putfield 249, 3) := by decide +kernel
theorem dX10_reading_29 : decode cX10_reading 29 = .ok (.aload_n 0, 1) := by decide +kernel
theorem dX10_reading_30 : decode cX10_reading 30 = .ok (.iload_n 2, 1) := by decide +kernel
theorem dX10_reading_31 : decode cX10_reading 31 = .ok (.putfield 252, 3) := by decide +kernel
theorem dX10_reading_34 : decode cX10_reading 34 = .ok (.aload_n 0, 1) := by decide +kernel
theorem dX10_reading_35 : decode cX10_reading 35 = .ok (.invokevirtual 299, 3) := by decide +kernel
theorem dX10_reading_38 : decode cX10_reading 38 = .ok (.ifCond .eq 10, 3) := by decide +kernel
theorem dX10_reading_41 : decode cX10_reading 41 = .ok (.aload_n 0, 1) := by decide +kernel
theorem dX10_reading_42 : decode cX10_reading 42 = .ok (.getfield 281, 3) := by decide +kernel
theorem dX10_reading_45 : decode cX10_reading 45 = .ok (.goto 6, 3) := by decide +kernel
theorem dX10_reading_48 : decode cX10_reading 48 = .ok (.sipush (-1005), 3) := by decide +kernel
theorem dX10_reading_51 : decode cX10_reading 51 = .ok (.ireturn, 1) := by decide +kernel
def BX10_reading_s (Q : Int32 → XT → YT → Prop) (p0 : Int32) (p1 : Int32) (X : XT) (Y : YT) : Prop :=
  PX10_noBar p1 X Y (fun r1 X2 Y3 => ((r1 = 0 → ((0 ≤ p0 → PX10_begin X2 Y3 (fun X8 Y9 => PX10_goThrough (sX (sX X8 48 53 p0) 48 54 p1) Y9 (fun r11 X12 Y13 => ((r11 = 0 → Q (-1005) X12 Y13) ∧ (¬ r11 = 0 → Q (X12 48 55) X12 Y13))))) ∧ (¬ 0 ≤ p0 → Q (-1002) X2 Y3))) ∧ (¬ r1 = 0 → Q (-1001) X2 Y3)))
def PX10_reading (p0 : Int32) (p1 : Int32) (X : XT) (Y : YT) (Q : Int32 → XT → YT → Prop) : Prop :=  BX10_reading_s Q p0 p1 X Y
set_option maxHeartbeats 4000000 in
set_option maxRecDepth 100000 in
theorem kX10_reading_s {Γ : Cxt} {Q : Int32 → XT → YT → Prop} (O : Ok Γ RX10 cX10_reading 3 { frames := 5, cells := 0, slots := 0, locals := 116 }) (r : Ret Γ (some .int) (qI Q)) {p0 : Int32} {p1 : Int32} {X : XT} {Y : YT} (h : BX10_reading_s Q p0 p1 X Y) : V Γ 0 [(0, .ref 48), (1, .int p0), (2, .int p1)] [] X Y := by
  refine v_aload_n O dX10_reading_0 rfl 0 rfl ?_
  refine v_iload_n O dX10_reading_1 rfl 2 rfl ?_
  refine v_callV (rm' := { frames := 1, cells := 0, slots := 0, locals := 25 }) (As := [.int p1]) (st := []) O dX10_reading_2 ci_X10_noBar ml_X10_231 mi_X10_noBar sh_48 rfl ⟨rfl, rfl, (by decide), (by decide)⟩ rfl (Nat.le_of_ble_eq_true rfl) rfl (mX10_noBar h) (k_I (fun r1 X2 Y3 h4 => ?_))
  refine v_if_eq (tgt := 12) O dX10_reading_5 (by decide) (fun g5 => ?_) (fun g5 => ?_)
  · refine v_iload_n O dX10_reading_12 rfl 1 rfl ?_
    refine v_if_ge (tgt := 20) O dX10_reading_13 (by decide) (fun g6 => ?_) (fun g6 => ?_)
    · refine v_aload_n O dX10_reading_20 rfl 0 rfl ?_
      refine v_callV (rm' := { frames := 0, cells := 0, slots := 0, locals := 0 }) (As := []) (st := []) O dX10_reading_21 ci_X10_begin ml_X10_296 mi_X10_begin sh_48 rfl ⟨rfl, rfl, (by decide), (by decide)⟩ rfl (Nat.le_of_ble_eq_true rfl) rfl (mX10_begin ((h4.1 g5).1 g6)) (k_V (fun X8 Y9 h10 => ?_))
      refine v_aload_n O dX10_reading_24 rfl 0 rfl ?_
      refine v_iload_n O dX10_reading_25 rfl 1 rfl ?_
      refine v_putI O dX10_reading_26 fo_X10_249 fp_10_53 sh_48 rfl rfl rfl ?_
      refine v_aload_n O dX10_reading_29 rfl 0 rfl ?_
      refine v_iload_n O dX10_reading_30 rfl 2 rfl ?_
      refine v_putI O dX10_reading_31 fo_X10_252 fp_10_54 sh_48 rfl rfl rfl ?_
      refine v_aload_n O dX10_reading_34 rfl 0 rfl ?_
      refine v_callV (rm' := { frames := 4, cells := 0, slots := 0, locals := 94 }) (As := []) (st := []) O dX10_reading_35 ci_X10_goThrough ml_X10_299 mi_X10_goThrough sh_48 rfl ⟨rfl, rfl, (by decide), (by decide)⟩ rfl (Nat.le_of_ble_eq_true rfl) rfl (mX10_goThrough h10) (k_I (fun r11 X12 Y13 h14 => ?_))
      refine v_if_eq (tgt := 48) O dX10_reading_38 (by decide) (fun g15 => ?_) (fun g15 => ?_)
      · refine v_sipush O dX10_reading_48 ks_m1005 ?_
        exact v_iret O r dX10_reading_51 ⟨_, rfl, (h14.1 g15)⟩
      · refine v_aload_n O dX10_reading_41 rfl 0 rfl ?_
        refine v_get O dX10_reading_42 fo_X10_281 sh_48 rfl rfl ?_
        refine v_goto O dX10_reading_45 (tgt := 51) (by decide) ?_
        exact v_iret O r dX10_reading_51 ⟨_, rfl, (h14.2 g15)⟩
    · refine v_sipush O dX10_reading_16 ks_m1002 ?_
      exact v_iret O r dX10_reading_19 ⟨_, rfl, ((h4.1 g5).2 g6)⟩
  · refine v_sipush O dX10_reading_8 ks_m1001 ?_
    exact v_iret O r dX10_reading_11 ⟨_, rfl, (h4.2 g5)⟩
set_option maxRecDepth 100000 in
theorem mX10_reading {Γ : Cxt} {p0 : Int32} {p1 : Int32} {X : XT} {Y : YT} {Q : Int32 → XT → YT → Prop} (h : PX10_reading p0 p1 X Y Q) : MT Γ yX10_reading (.code yX10_reading cX10_reading 3 (some .int) :: wl) { frames := 5, cells := 0, slots := 0, locals := 116 } [.ref 48, .int p0, .int p1] X Y (qI Q) :=
  mt_of (by decide) (Nat.le_of_ble_eq_true rfl) (fun Γ _ O r => kX10_reading_s O r  (h ))
